theorem flX6_12 : Cond.fieldLink RX6 12 "QuorumLog" "cluster" "LQuorumLog$Cluster;" ∈ BIG := bigT2 (i := 183) rfl rfl
theorem flX6_66 : Cond.fieldLink RX6 66 "QuorumLog$Cluster" "network" "LQuorumLog$Network;" ∈ BIG := bigT2 (i := 58) rfl rfl
theorem flX6_224 : Cond.fieldLink RX6 224 "QuorumLog$Network" "count" "I" ∈ BIG := bigT2 (i := 28) rfl rfl
theorem wlX6_75 : Cond.methodLink RX6 75 yX6_isNode ∈ BIG := bigT4 (i := 73) rfl rfl
theorem flX6_263 : Cond.fieldLink RX6 263 "QuorumLog$Cluster" "replicas" "[LQuorumLog$Replica;" ∈ BIG := bigT2 (i := 56) rfl rfl
theorem flX6_97 : Cond.fieldLink RX6 97 "QuorumLog$Replica" "isUp" "Z" ∈ BIG := bigT1 (i := 119) rfl rfl
theorem flX6_130 : Cond.fieldLink RX6 130 "QuorumLog$Replica" "role" "I" ∈ BIG := bigT1 (i := 121) rfl rfl
theorem flX6_120 : Cond.fieldLink RX6 120 "QuorumLog$Replica" "log" "LQuorumLog$Log;" ∈ BIG := bigT1 (i := 107) rfl rfl
theorem wlX6_135 : Cond.methodLink RX6 135 yX1_isFull ∈ BIG := bigT4 (i := 147) rfl rfl
theorem imX1_isFull : Cond.instanceMethod yX1_isFull ∈ BIG := bigT4 (i := 148) rfl rfl
theorem seX1_isFull : Cond.selects yX1_isFull.cls yX1_isFull yX1_isFull ∈ BIG := bigT4 (i := 149) rfl rfl
theorem cdX1_isFull : Cond.code yX1_isFull cX1_isFull 1 (some .boolean) ∈ BIG := bigT4 (i := 150) rfl rfl
theorem wcX1_isFull : wCv yX1_isFull cX1_isFull 1 (some .boolean) 0 := ⟨⟨imX1_isFull, seX1_isFull, iniX1, cdX1_isFull⟩, by decide +kernel⟩
theorem wlX6_51 : Cond.methodLink RX6 51 yX6_areTicks ∈ BIG := bigT3 (i := 86) rfl rfl
theorem stX6_areTicks : Cond.static yX6_areTicks ∈ BIG := bigT3 (i := 87) rfl rfl
theorem cdX6_areTicks : Cond.code yX6_areTicks cX6_areTicks 1 (some .boolean) ∈ BIG := bigT3 (i := 88) rfl rfl
theorem wcX6_areTicks : wCs yX6_areTicks cX6_areTicks 1 (some .boolean) 1 := ⟨⟨stX6_areTicks, iniX6, cdX6_areTicks⟩, by decide +kernel⟩
theorem clX6_78 : Cond.classLink RX6 78 "java/lang/IndexOutOfBoundsException" ∈ BIG := bigT4 (i := 74) rfl rfl
theorem ini_IndexOutOfBoundsException : Cond.initialized "java/lang/IndexOutOfBoundsException" ∈ BIG := bigT1 (i := 21) rfl rfl
theorem wlX6_34 : Cond.methodLink RX6 34 yX6_isGroup ∈ BIG := bigT2 (i := 238) rfl rfl
theorem stX6_isGroup : Cond.static yX6_isGroup ∈ BIG := bigT2 (i := 239) rfl rfl
theorem cdX6_isGroup : Cond.code yX6_isGroup cX6_isGroup 1 (some .boolean) ∈ BIG := bigT3 (i := 0) rfl rfl
theorem wcX6_isGroup : wCs yX6_isGroup cX6_isGroup 1 (some .boolean) 1 := ⟨⟨stX6_isGroup, iniX6, cdX6_isGroup⟩, by decide +kernel⟩
theorem wlX6_30 : Cond.methodLink RX6 30 yX0_begin ∈ BIG := bigT2 (i := 154) rfl rfl
theorem imX0_begin : Cond.instanceMethod yX0_begin ∈ BIG := bigT2 (i := 155) rfl rfl
theorem seX0_begin : Cond.selects yX0_begin.cls yX0_begin yX0_begin ∈ BIG := bigT2 (i := 156) rfl rfl
theorem cdX0_begin : Cond.code yX0_begin cX0_begin 4 (none) ∈ BIG := bigT2 (i := 157) rfl rfl
theorem wcX0_begin : wCv yX0_begin cX0_begin 4 (none) 2 := ⟨⟨imX0_begin, seX0_begin, iniX0, cdX0_begin⟩, by decide +kernel⟩
theorem wlX6_45 : Cond.methodLink RX6 45 yJ6_bitCount_0f7a4 ∈ BIG := bigT3 (i := 73) rfl rfl
theorem clX6_38 : Cond.classLink RX6 38 "java/lang/IllegalArgumentException" ∈ BIG := bigT3 (i := 1) rfl rfl
theorem ini_IllegalArgumentException : Cond.initialized "java/lang/IllegalArgumentException" ∈ BIG := bigT1 (i := 16) rfl rfl
theorem wlX6_56 : Cond.methodLink RX6 56 yX0_advance ∈ BIG := bigT3 (i := 90) rfl rfl
theorem imX0_advance : Cond.instanceMethod yX0_advance ∈ BIG := bigT3 (i := 91) rfl rfl
theorem seX0_advance : Cond.selects yX0_advance.cls yX0_advance yX0_advance ∈ BIG := bigT3 (i := 92) rfl rfl
theorem cdX0_advance : Cond.code yX0_advance cX0_advance 6 (none) ∈ BIG := bigT3 (i := 93) rfl rfl
theorem wcX0_advance : wCv yX0_advance cX0_advance 6 (none) 1 := ⟨⟨imX0_advance, seX0_advance, iniX0, cdX0_advance⟩, by decide +kernel⟩
theorem flX6_60 : Cond.fieldLink RX6 60 "QuorumLog$Cluster" "time" "I" ∈ BIG := bigT2 (i := 63) rfl rfl
theorem flX6_70 : Cond.fieldLink RX6 70 "QuorumLog$Network" "delay" "I" ∈ BIG := bigT2 (i := 31) rfl rfl
theorem wlX6_85 : Cond.methodLink RX6 85 yX3_isCut ∈ BIG := bigT4 (i := 88) rfl rfl
theorem wlX6_89 : Cond.methodLink RX6 89 yX3_setCut ∈ BIG := bigT4 (i := 89) rfl rfl
theorem imX3_setCut : Cond.instanceMethod yX3_setCut ∈ BIG := bigT4 (i := 90) rfl rfl
theorem seX3_setCut : Cond.selects yX3_setCut.cls yX3_setCut yX3_setCut ∈ BIG := bigT4 (i := 91) rfl rfl
theorem cdX3_setCut : Cond.code yX3_setCut cX3_setCut 5 (none) ∈ BIG := bigT4 (i := 92) rfl rfl
theorem wcX3_setCut : wCv yX3_setCut cX3_setCut 5 (none) 3 := ⟨⟨imX3_setCut, seX3_setCut, iniX3, cdX3_setCut⟩, by decide +kernel⟩
theorem wlX6_93 : Cond.methodLink RX6 93 yX6_replicaAt ∈ BIG := bigT4 (i := 101) rfl rfl
theorem imX6_replicaAt : Cond.instanceMethod yX6_replicaAt ∈ BIG := bigT4 (i := 103) rfl rfl
theorem seX6_replicaAt : Cond.selects yX6_replicaAt.cls yX6_replicaAt yX6_replicaAt ∈ BIG := bigS2 (i := 5) (q := (yX6_replicaAt, 4)) rfl
theorem cdX6_replicaAt : Cond.code yX6_replicaAt cX6_replicaAt 2 (some (.object "QuorumLog$Replica")) ∈ BIG := bigT4 (i := 104) rfl rfl
theorem wcX6_replicaAt : wCv yX6_replicaAt cX6_replicaAt 2 (some (.object "QuorumLog$Replica")) 1 := ⟨⟨imX6_replicaAt, seX6_replicaAt, iniX6, cdX6_replicaAt⟩, by decide +kernel⟩
theorem wlX6_108 : Cond.methodLink RX6 108 yX4_goDown ∈ BIG := bigT4 (i := 121) rfl rfl
theorem imX4_goDown : Cond.instanceMethod yX4_goDown ∈ BIG := bigT4 (i := 122) rfl rfl
theorem seX4_goDown : Cond.selects yX4_goDown.cls yX4_goDown yX4_goDown ∈ BIG := bigT4 (i := 123) rfl rfl
theorem cdX4_goDown : Cond.code yX4_goDown cX4_goDown 1 (none) ∈ BIG := bigT4 (i := 124) rfl rfl
theorem wcX4_goDown : wCv yX4_goDown cX4_goDown 1 (none) 0 := ⟨⟨imX4_goDown, seX4_goDown, iniX4, cdX4_goDown⟩, by decide +kernel⟩
theorem flX6_111 : Cond.fieldLink RX6 111 "QuorumLog$Replica" "term" "I" ∈ BIG := bigT1 (i := 125) rfl rfl
theorem clX6_103 : Cond.classLink RX6 103 "java/lang/IllegalStateException" ∈ BIG := bigT4 (i := 105) rfl rfl
theorem ini_IllegalStateException : Cond.initialized "java/lang/IllegalStateException" ∈ BIG := bigT1 (i := 23) rfl rfl
theorem wlX6_116 : Cond.methodLink RX6 116 yX0_revive ∈ BIG := bigT4 (i := 133) rfl rfl
theorem imX0_revive : Cond.instanceMethod yX0_revive ∈ BIG := bigT4 (i := 134) rfl rfl
theorem seX0_revive : Cond.selects yX0_revive.cls yX0_revive yX0_revive ∈ BIG := bigT4 (i := 135) rfl rfl
theorem cdX0_revive : Cond.code yX0_revive cX0_revive 2 (none) ∈ BIG := bigT4 (i := 136) rfl rfl
theorem wcX0_revive : wCv yX0_revive cX0_revive 2 (none) 1 := ⟨⟨imX0_revive, seX0_revive, iniX0, cdX0_revive⟩, by decide +kernel⟩
theorem wlX6_124 : Cond.methodLink RX6 124 yX1_lastIndex ∈ BIG := bigT4 (i := 137) rfl rfl
theorem wlX6_144 : Cond.methodLink RX6 144 yX0_add ∈ BIG := bigT4 (i := 167) rfl rfl
theorem imX0_add : Cond.instanceMethod yX0_add ∈ BIG := bigT4 (i := 168) rfl rfl
theorem seX0_add : Cond.selects yX0_add.cls yX0_add yX0_add ∈ BIG := bigT4 (i := 169) rfl rfl
theorem cdX0_add : Cond.code yX0_add cX0_add 5 (some .int) ∈ BIG := bigT4 (i := 170) rfl rfl
theorem wcX0_add : wCv yX0_add cX0_add 5 (some .int) 3 := ⟨⟨imX0_add, seX0_add, iniX0, cdX0_add⟩, by decide +kernel⟩
theorem clX6_139 : Cond.classLink RX6 139 "java/lang/UnsupportedOperationException" ∈ BIG := bigT4 (i := 151) rfl rfl
theorem ini_UnsupportedOperationException : Cond.initialized "java/lang/UnsupportedOperationException" ∈ BIG := bigT1 (i := 24) rfl rfl
theorem wlX6_148 : Cond.methodLink RX6 148 yX1_isJoint ∈ BIG := bigT4 (i := 178) rfl rfl
theorem wlX6_151 : Cond.methodLink RX6 151 yX4_isConfigurationCommitted ∈ BIG := bigT4 (i := 179) rfl rfl
theorem flX6_156 : Cond.fieldLink RX6 156 "QuorumLog$Log" "newGroup" "I" ∈ BIG := bigT1 (i := 74) rfl rfl
theorem flX6_159 : Cond.fieldLink RX6 159 "QuorumLog$Replica" "commit" "I" ∈ BIG := bigT1 (i := 131) rfl rfl
theorem wlX6_162 : Cond.methodLink RX6 162 yX1_packTo ∈ BIG := bigT4 (i := 188) rfl rfl
theorem imX1_packTo : Cond.instanceMethod yX1_packTo ∈ BIG := bigT4 (i := 189) rfl rfl
theorem seX1_packTo : Cond.selects yX1_packTo.cls yX1_packTo yX1_packTo ∈ BIG := bigT4 (i := 190) rfl rfl
theorem cdX1_packTo : Cond.code yX1_packTo cX1_packTo 4 (some .int) ∈ BIG := bigT4 (i := 191) rfl rfl
theorem wcX1_packTo : wCv yX1_packTo cX1_packTo 4 (some .int) 1 := ⟨⟨imX1_packTo, seX1_packTo, iniX1, cdX1_packTo⟩, by decide +kernel⟩
theorem wlX6_165 : Cond.methodLink RX6 165 yX4_canAnswerReads ∈ BIG := bigT4 (i := 203) rfl rfl
theorem imX4_canAnswerReads : Cond.instanceMethod yX4_canAnswerReads ∈ BIG := bigT4 (i := 204) rfl rfl
theorem seX4_canAnswerReads : Cond.selects yX4_canAnswerReads.cls yX4_canAnswerReads yX4_canAnswerReads ∈ BIG := bigT4 (i := 205) rfl rfl
theorem cdX4_canAnswerReads : Cond.code yX4_canAnswerReads cX4_canAnswerReads 2 (some .boolean) ∈ BIG := bigT4 (i := 206) rfl rfl
theorem wcX4_canAnswerReads : wCv yX4_canAnswerReads cX4_canAnswerReads 2 (some .boolean) 1 := ⟨⟨imX4_canAnswerReads, seX4_canAnswerReads, iniX4, cdX4_canAnswerReads⟩, by decide +kernel⟩
theorem wlX6_170 : Cond.methodLink RX6 170 yX1_resultAt ∈ BIG := bigT4 (i := 218) rfl rfl
theorem flX6_175 : Cond.fieldLink RX6 175 "QuorumLog$Replica" "vote" "I" ∈ BIG := bigT1 (i := 128) rfl rfl
theorem wlX6_178 : Cond.methodLink RX6 178 yX1_lastTerm ∈ BIG := bigT4 (i := 227) rfl rfl
theorem flX6_181 : Cond.fieldLink RX6 181 "QuorumLog$Log" "baseIndex" "I" ∈ BIG := bigT1 (i := 65) rfl rfl
theorem flX6_184 : Cond.fieldLink RX6 184 "QuorumLog$Replica" "timer" "I" ∈ BIG := bigT1 (i := 134) rfl rfl
theorem flX6_187 : Cond.fieldLink RX6 187 "QuorumLog$Log" "oldGroup" "I" ∈ BIG := bigT1 (i := 72) rfl rfl
theorem wlX6_190 : Cond.methodLink RX6 190 yX4_lease ∈ BIG := bigT4 (i := 228) rfl rfl
theorem flX6_193 : Cond.fieldLink RX6 193 "QuorumLog$Replica" "voters" "I" ∈ BIG := bigT1 (i := 137) rfl rfl
theorem flX6_198 : Cond.fieldLink RX6 198 "QuorumLog$Replica" "next" "[I" ∈ BIG := bigT1 (i := 109) rfl rfl
theorem flX6_202 : Cond.fieldLink RX6 202 "QuorumLog$Replica" "match" "[I" ∈ BIG := bigT1 (i := 112) rfl rfl
theorem flX6_205 : Cond.fieldLink RX6 205 "QuorumLog$Replica" "echo" "[I" ∈ BIG := bigT1 (i := 115) rfl rfl
theorem wlX6_208 : Cond.methodLink RX6 208 yX1_has ∈ BIG := bigT5 (i := 4) rfl rfl
theorem wlX6_215 : Cond.methodLink RX6 215 yX1_termAt ∈ BIG := bigT5 (i := 7) rfl rfl
theorem wlX6_218 : Cond.methodLink RX6 218 yX1_kindAt ∈ BIG := bigT5 (i := 8) rfl rfl
theorem imX1_kindAt : Cond.instanceMethod yX1_kindAt ∈ BIG := bigT5 (i := 9) rfl rfl
theorem seX1_kindAt : Cond.selects yX1_kindAt.cls yX1_kindAt yX1_kindAt ∈ BIG := bigT5 (i := 10) rfl rfl
theorem cdX1_kindAt : Cond.code yX1_kindAt cX1_kindAt 2 (some .int) ∈ BIG := bigT5 (i := 11) rfl rfl
theorem wcX1_kindAt : wCv yX1_kindAt cX1_kindAt 2 (some .int) 1 := ⟨⟨imX1_kindAt, seX1_kindAt, iniX1, cdX1_kindAt⟩, by decide +kernel⟩
theorem wlX6_221 : Cond.methodLink RX6 221 yX1_valueAt ∈ BIG := bigT5 (i := 12) rfl rfl
theorem imX1_valueAt : Cond.instanceMethod yX1_valueAt ∈ BIG := bigT5 (i := 13) rfl rfl
theorem seX1_valueAt : Cond.selects yX1_valueAt.cls yX1_valueAt yX1_valueAt ∈ BIG := bigT5 (i := 14) rfl rfl
theorem cdX1_valueAt : Cond.code yX1_valueAt cX1_valueAt 2 (some .int) ∈ BIG := bigT5 (i := 15) rfl rfl
theorem wcX1_valueAt : wCv yX1_valueAt cX1_valueAt 2 (some .int) 1 := ⟨⟨imX1_valueAt, seX1_valueAt, iniX1, cdX1_valueAt⟩, by decide +kernel⟩
theorem wlX6_227 : Cond.methodLink RX6 227 yX3_has ∈ BIG := bigT5 (i := 23) rfl rfl
theorem imX3_has : Cond.instanceMethod yX3_has ∈ BIG := bigT5 (i := 24) rfl rfl
theorem seX3_has : Cond.selects yX3_has.cls yX3_has yX3_has ∈ BIG := bigT5 (i := 25) rfl rfl
theorem cdX3_has : Cond.code yX3_has cX3_has 2 (some .boolean) ∈ BIG := bigT5 (i := 26) rfl rfl
theorem wcX3_has : wCv yX3_has cX3_has 2 (some .boolean) 1 := ⟨⟨imX3_has, seX3_has, iniX3, cdX3_has⟩, by decide +kernel⟩
theorem flX6_232 : Cond.fieldLink RX6 232 "QuorumLog$Network" "rows" "[LQuorumLog$Message;" ∈ BIG := bigT2 (i := 21) rfl rfl
theorem flX6_236 : Cond.fieldLink RX6 236 "QuorumLog$Message" "kind" "I" ∈ BIG := bigT1 (i := 190) rfl rfl
theorem flX6_241 : Cond.fieldLink RX6 241 "QuorumLog$Message" "sender" "I" ∈ BIG := bigT1 (i := 194) rfl rfl
theorem flX6_244 : Cond.fieldLink RX6 244 "QuorumLog$Message" "receiver" "I" ∈ BIG := bigT1 (i := 198) rfl rfl
theorem flX6_247 : Cond.fieldLink RX6 247 "QuorumLog$Message" "term" "I" ∈ BIG := bigT1 (i := 201) rfl rfl
theorem flX6_248 : Cond.fieldLink RX6 248 "QuorumLog$Message" "due" "I" ∈ BIG := bigT1 (i := 205) rfl rfl
theorem flX6_251 : Cond.fieldLink RX6 251 "QuorumLog$Message" "index" "I" ∈ BIG := bigT1 (i := 210) rfl rfl
theorem wlX6_254 : Cond.methodLink RX6 254 yX2_detail ∈ BIG := bigT5 (i := 29) rfl rfl
theorem imX2_detail : Cond.instanceMethod yX2_detail ∈ BIG := bigT5 (i := 30) rfl rfl
theorem seX2_detail : Cond.selects yX2_detail.cls yX2_detail yX2_detail ∈ BIG := bigT5 (i := 31) rfl rfl
theorem cdX2_detail : Cond.code yX2_detail cX2_detail 1 (some .int) ∈ BIG := bigT5 (i := 32) rfl rfl
theorem wcX2_detail : wCv yX2_detail cX2_detail 1 (some .int) 0 := ⟨⟨imX2_detail, seX2_detail, iniX2, cdX2_detail⟩, by decide +kernel⟩
theorem wlX6_257 : Cond.methodLink RX6 257 yX3_remove ∈ BIG := bigT5 (i := 40) rfl rfl
theorem flX6_260 : Cond.fieldLink RX6 260 "QuorumLog$Network" "lost" "I" ∈ BIG := bigT2 (i := 37) rfl rfl
theorem clX6_267 : Cond.classLink RX6 267 "java/util/NoSuchElementException" ∈ BIG := bigT5 (i := 49) rfl rfl
theorem ini_NoSuchElementException : Cond.initialized "java/util/NoSuchElementException" ∈ BIG := bigT1 (i := 25) rfl rfl
theorem flX6_272 : Cond.fieldLink RX6 272 "QuorumLog$Cluster" "winners" "[I" ∈ BIG := bigT2 (i := 60) rfl rfl
theorem wlX6_277 : Cond.methodLink RX6 277 Lib.Math.max.name ∈ BIG := bigT5 (i := 80) rfl rfl
theorem wlX6_283 : Cond.methodLink RX6 283 Lib.Math.min.name ∈ BIG := bigT5 (i := 81) rfl rfl
theorem flX6_286 : Cond.fieldLink RX6 286 "QuorumLog$Network" "sent" "I" ∈ BIG := bigT2 (i := 34) rfl rfl
theorem flX6_289 : Cond.fieldLink RX6 289 "QuorumLog$Cluster" "stood" "I" ∈ BIG := bigT2 (i := 65) rfl rfl
theorem flX6_292 : Cond.fieldLink RX6 292 "QuorumLog$Cluster" "won" "I" ∈ BIG := bigT2 (i := 67) rfl rfl
theorem flX6_295 : Cond.fieldLink RX6 295 "QuorumLog$Cluster" "removed" "I" ∈ BIG := bigT2 (i := 69) rfl rfl
theorem flX6_298 : Cond.fieldLink RX6 298 "QuorumLog$Cluster" "installed" "I" ∈ BIG := bigT2 (i := 71) rfl rfl
theorem flX6_19 : Cond.fieldLink RX6 19 "QuorumLog" "script" "LQuorumLog$Script;" ∈ BIG := bigT2 (i := 185) rfl rfl
theorem wlX6_309 : Cond.methodLink RX6 309 yX5_isFull ∈ BIG := bigT5 (i := 124) rfl rfl
theorem imX5_isFull : Cond.instanceMethod yX5_isFull ∈ BIG := bigT5 (i := 125) rfl rfl
theorem seX5_isFull : Cond.selects yX5_isFull.cls yX5_isFull yX5_isFull ∈ BIG := bigT5 (i := 126) rfl rfl
theorem cdX5_isFull : Cond.code yX5_isFull cX5_isFull 1 (some .boolean) ∈ BIG := bigT5 (i := 127) rfl rfl
theorem wcX5_isFull : wCv yX5_isFull cX5_isFull 1 (some .boolean) 0 := ⟨⟨imX5_isFull, seX5_isFull, iniX5, cdX5_isFull⟩, by decide +kernel⟩
theorem wlX6_312 : Cond.methodLink RX6 312 yX5_add ∈ BIG := bigT5 (i := 129) rfl rfl
theorem imX5_add : Cond.instanceMethod yX5_add ∈ BIG := bigT5 (i := 130) rfl rfl
theorem seX5_add : Cond.selects yX5_add.cls yX5_add yX5_add ∈ BIG := bigT5 (i := 131) rfl rfl
theorem cdX5_add : Cond.code yX5_add cX5_add 2 (none) ∈ BIG := bigT5 (i := 132) rfl rfl
theorem wcX5_add : wCv yX5_add cX5_add 2 (none) 1 := ⟨⟨imX5_add, seX5_add, iniX5, cdX5_add⟩, by decide +kernel⟩
theorem flX6_315 : Cond.fieldLink RX6 315 "QuorumLog$Script" "length" "I" ∈ BIG := bigT2 (i := 105) rfl rfl
def mX6_messages (nc : Nat)  (μ : gM) : Option Int32 :=
  some (μ 9 0 3)
set_option maxHeartbeats 4000000 in
set_option maxRecDepth 100000 in
theorem kX6_messages (l : Launch) (D : va_G) (tc : Nat → ClassId) (sa : Nat → Nat) (ad : Nat → Nat → Nat) (nc : Nat) (hnc : 0 < nc ∧ nc ≤ 2) (hI : gI (gE_C nc) ad)  (μ : gM) (r : Int32) (h : mX6_messages nc  μ = some r) : gMet l yX6_messages cX6_messages 1 (some .int) ({ frames := 0, cells := 0, slots := 0, locals := 0 } : Room) D (gE_C nc) gkd_C tc ad (grh_C nc) sa [.ref (ad 0 0)] μ (some (.int r)) μ := by
  refine gMet_of hI ⟨by decide +kernel, Nat.le_of_ble_eq_true rfl⟩ (fun p e s m args below meth c sz hr hlk => ?_)
  unfold mX6_messages at h
  show JC p l e ({ frames := 0, cells := 0, slots := 0, locals := 0 } : Room) s m args below meth c cX6_messages 1 RX6 D tc sa ad nc sz (some (.int r)) μ μ 0 [(0, .ref (ad 0 0))] []
  refine J_aload_n (i := 0) (q := 0) (pc1 := 1) dX6_messages_0 rfl rfl rfl ?_
  refine J_getR (T := TX6) (f' := 6) (i' := 0) (pc1 := 4) eC0 rfl rfl inX6 0 (by decide) rfl rfl flX6_12 rfl dX6_messages_1 rfl ?_
  refine J_getR (T := TX0) (f' := 9) (i' := 0) (pc1 := 7) (eC6 hnc.1) rfl rfl inX0 1 (by decide) rfl rfl flX6_66 rfl dX6_messages_4 rfl ?_
  refine J_getI (T := TX3) (pc1 := 10) (eC9 hnc.1) rfl rfl inX3 3 (by decide) rfl flX6_224 rfl dX6_messages_7 rfl ?_
  cases h
  exact J_iret hr hlk dX6_messages_10
def mX6_isPossible (nc : Nat) (a1 : Int32) (a2 : Int32) (a3 : Int32) (μ : gM) : Option Int32 :=
  if a1 = 0 then
    gBp (mX6_areTicks nc a2 μ) fun r32 =>
    gChk (r32 = 0 ∨ r32 = 1) <|
    some r32
  else
    gBp (mX6_isNode nc a2 μ) fun r3 =>
    if r3 = 0 then
      some 0
    else
      gChk (inb a2 5) <|
      if a1 = 1 then
        gChk ((μ 11 (5 * 0 + (a2.toNatClampNeg)) 5) = 0 ∨ (μ 11 (5 * 0 + (a2.toNatClampNeg)) 5) = 1) <|
        some (μ 11 (5 * 0 + (a2.toNatClampNeg)) 5)
      else if a1 = 2 then
        if (μ 11 (5 * 0 + (a2.toNatClampNeg)) 5) = 0 then
          some 1
        else
          some 0
      else if a1 = 3 then
        gBp (mX6_isNode nc a3 μ) fun r12 =>
        if r12 = 0 then
          some 0
        else
          if a2 = a3 then
            some 0
          else
            some 1
      else if a1 = 4 then
        gBp (mX6_isNode nc a3 μ) fun r17 =>
        if r17 = 0 then
          some 0
        else
          if a2 = a3 then
            some 0
          else
            some 1
      else if a1 = 5 then
        if (μ 11 (5 * 0 + (a2.toNatClampNeg)) 6) = 2 then
          gBp (mX1_isFull nc (5 * 0 + (a2.toNatClampNeg)) μ) fun r23 =>
          if r23 = 0 then
            some 1
          else
            some 0
        else
          some 0
      else if a1 = 6 then
        gChk ((μ 11 (5 * 0 + (a2.toNatClampNeg)) 5) = 0 ∨ (μ 11 (5 * 0 + (a2.toNatClampNeg)) 5) = 1) <|
        some (μ 11 (5 * 0 + (a2.toNatClampNeg)) 5)
      else 
        gBp (mX6_isNode nc a3 μ) fun r28 =>
        if r28 = 0 then
          some 0
        else
          if a2 = a3 then
            some 0
          else
            some 1
set_option maxHeartbeats 4000000 in
set_option maxRecDepth 100000 in
theorem kX6_isPossible (l : Launch) (D : va_G) (tc : Nat → ClassId) (sa : Nat → Nat) (ad : Nat → Nat → Nat) (nc : Nat) (hnc : 0 < nc ∧ nc ≤ 2) (hI : gI (gE_C nc) ad) (a1 : Int32) (a2 : Int32) (a3 : Int32) (μ : gM) (r : Int32) (h : mX6_isPossible nc a1 a2 a3 μ = some r) : gMet l yX6_isPossible cX6_isPossible 5 (some .boolean) ({ frames := 1, cells := 0, slots := 0, locals := 20 } : Room) D (gE_C nc) gkd_C tc ad (grh_C nc) sa [.ref (ad 0 0), .int a1, .int a2, .int a3] μ (some (.int r)) μ := by
  refine gMet_of hI ⟨by decide +kernel, Nat.le_of_ble_eq_true rfl⟩ (fun p e s m args below meth c sz hr hlk => ?_)
  unfold mX6_isPossible at h
  show JC p l e ({ frames := 1, cells := 0, slots := 0, locals := 20 } : Room) s m args below meth c cX6_isPossible 5 RX6 D tc sa ad nc sz (some (.int r)) μ μ 0 [(0, .ref (ad 0 0)), (1, .int a1), (2, .int a2), (3, .int a3)] []
  refine J_iload_n (i := 1) (q := 1) (pc1 := 1) dX6_isPossible_0 rfl rfl rfl ?_
  refine J_if_ne (tgt := 9) (pc1 := 4) dX6_isPossible_1 (by decide) (fun q1 => ?_) rfl (fun q1 => ?_)
  · rw [if_neg q1] at h
    refine J_iload_n (i := 2) (q := 2) (pc1 := 10) dX6_isPossible_9 rfl rfl rfl ?_
    obtain ⟨r3, hc2, h⟩ := gBp_s h
    refine J_callS (As := [.int a2]) (st := []) (st1 := [.int r3]) (pc1 := 13) (kX6_isNode l D tc sa ad nc hnc hI a2 μ r3 hc2) wcX6_isNode wlX6_75 rfl ⟨rfl, rfl, Nat.le_of_ble_eq_true rfl, Nat.le_of_ble_eq_true rfl⟩ ⟨Nat.zero_le _, Nat.zero_le _⟩ (Nat.le_of_ble_eq_true rfl) dX6_isPossible_10 rfl rfl ?_
    refine J_if_ne (tgt := 18) (pc1 := 16) dX6_isPossible_13 (by decide) (fun q4 => ?_) rfl (fun q4 => ?_)
    · rw [if_neg q4] at h
      refine J_aload_n (i := 0) (q := 0) (pc1 := 19) dX6_isPossible_18 rfl rfl rfl ?_
      refine J_getR (T := TX6) (f' := 6) (i' := 0) (pc1 := 22) eC0 rfl rfl inX6 0 (by decide) rfl rfl flX6_12 rfl dX6_isPossible_19 rfl ?_
      refine J_getR (T := TX0) (f' := 7) (i' := 0) (pc1 := 25) (eC6 hnc.1) rfl rfl inX0 0 (by decide) rfl rfl flX6_263 rfl dX6_isPossible_22 rfl ?_
      refine J_iload_n (i := 2) (q := 2) (pc1 := 26) dX6_isPossible_25 rfl rfl rfl ?_
      obtain ⟨h5, h⟩ := gChk_s h
      refine J_aald (f' := 11) (i' := (5 * 0 + (a2.toNatClampNeg))) (pc1 := 27) (eC7 hnc.1) rfl rfl h5 rfl dX6_isPossible_26 rfl ?_
      refine J_astore (i := 4) (lv1 := [(4, .ref (ad 11 (5 * 0 + (a2.toNatClampNeg)))), (0, .ref (ad 0 0)), (1, .int a1), (2, .int a2), (3, .int a3)]) (pc1 := 29) dX6_isPossible_27 (by decide) rfl rfl ?_
      refine J_iload_n (i := 1) (q := 2) (pc1 := 30) dX6_isPossible_29 rfl rfl rfl ?_
      by_cases q6 : a1 = 1
      · rw [if_pos q6] at h
        refine J_swIn (v := 1) (off := 38) (tgt := 68) dX6_isPossible_30 q6 (by decide) ?_
        refine J_aload (i := 4) (q := 0) (pc1 := 70) dX6_isPossible_68 rfl rfl ?_
        refine J_getI (T := TX4) (pc1 := 73) (eC11 (gRep hnc.1 h5)) rfl rfl inX4 5 (by decide) rfl flX6_97 rfl dX6_isPossible_70 rfl ?_
        obtain ⟨h7, h⟩ := gChk_s h
        cases h
        exact J_zret h7 hr hlk dX6_isPossible_73
      rw [if_neg q6] at h
      by_cases q8 : a1 = 2
      · rw [if_pos q8] at h
        refine J_swIn (v := 2) (off := 44) (tgt := 74) dX6_isPossible_30 q8 (by decide) ?_
        refine J_aload (i := 4) (q := 0) (pc1 := 76) dX6_isPossible_74 rfl rfl ?_
        refine J_getI (T := TX4) (pc1 := 79) (eC11 (gRep hnc.1 h5)) rfl rfl inX4 5 (by decide) rfl flX6_97 rfl dX6_isPossible_76 rfl ?_
        refine J_if_ne (tgt := 86) (pc1 := 82) dX6_isPossible_79 (by decide) (fun q9 => ?_) rfl (fun q9 => ?_)
        · rw [if_neg q9] at h
          refine J_iconst (v := 0) (pc1 := 87) dX6_isPossible_86 (by decide) rfl ?_
          cases h
          exact J_zret (by decide) hr hlk dX6_isPossible_87
        · rw [if_pos q9] at h
          refine J_iconst (v := 1) (pc1 := 83) dX6_isPossible_82 (by decide) rfl ?_
          refine J_goto (tgt := 87) dX6_isPossible_83 (by decide) ?_
          cases h
          exact J_zret (by decide) hr hlk dX6_isPossible_87
      rw [if_neg q8] at h
      by_cases q10 : a1 = 3
      · rw [if_pos q10] at h
        refine J_swIn (v := 3) (off := 84) (tgt := 114) dX6_isPossible_30 q10 (by decide) ?_
        refine J_iload_n (i := 3) (q := 4) (pc1 := 115) dX6_isPossible_114 rfl rfl rfl ?_
        obtain ⟨r12, hc11, h⟩ := gBp_s h
        refine J_callS (As := [.int a3]) (st := []) (st1 := [.int r12]) (pc1 := 118) (kX6_isNode l D tc sa ad nc hnc hI a3 μ r12 hc11) wcX6_isNode wlX6_75 rfl ⟨rfl, rfl, Nat.le_of_ble_eq_true rfl, Nat.le_of_ble_eq_true rfl⟩ ⟨Nat.zero_le _, Nat.zero_le _⟩ (Nat.le_of_ble_eq_true rfl) dX6_isPossible_115 rfl rfl ?_
        refine J_if_eq (tgt := 130) (pc1 := 121) dX6_isPossible_118 (by decide) (fun q13 => ?_) rfl (fun q13 => ?_)
        · rw [if_pos q13] at h
          refine J_iconst (v := 0) (pc1 := 131) dX6_isPossible_130 (by decide) rfl ?_
          cases h
          exact J_zret (by decide) hr hlk dX6_isPossible_131
        · rw [if_neg q13] at h
          refine J_iload_n (i := 2) (q := 3) (pc1 := 122) dX6_isPossible_121 rfl rfl rfl ?_
          refine J_iload_n (i := 3) (q := 4) (pc1 := 123) dX6_isPossible_122 rfl rfl rfl ?_
          refine J_icmp_eq (tgt := 130) (pc1 := 126) dX6_isPossible_123 (by decide) (fun q14 => ?_) rfl (fun q14 => ?_)
          · rw [if_pos q14] at h
            refine J_iconst (v := 0) (pc1 := 131) dX6_isPossible_130 (by decide) rfl ?_
            cases h
            exact J_zret (by decide) hr hlk dX6_isPossible_131
          · rw [if_neg q14] at h
            refine J_iconst (v := 1) (pc1 := 127) dX6_isPossible_126 (by decide) rfl ?_
            refine J_goto (tgt := 131) dX6_isPossible_127 (by decide) ?_
            cases h
            exact J_zret (by decide) hr hlk dX6_isPossible_131
      rw [if_neg q10] at h
      by_cases q15 : a1 = 4
      · rw [if_pos q15] at h
        refine J_swIn (v := 4) (off := 84) (tgt := 114) dX6_isPossible_30 q15 (by decide) ?_
        refine J_iload_n (i := 3) (q := 4) (pc1 := 115) dX6_isPossible_114 rfl rfl rfl ?_
        obtain ⟨r17, hc16, h⟩ := gBp_s h
        refine J_callS (As := [.int a3]) (st := []) (st1 := [.int r17]) (pc1 := 118) (kX6_isNode l D tc sa ad nc hnc hI a3 μ r17 hc16) wcX6_isNode wlX6_75 rfl ⟨rfl, rfl, Nat.le_of_ble_eq_true rfl, Nat.le_of_ble_eq_true rfl⟩ ⟨Nat.zero_le _, Nat.zero_le _⟩ (Nat.le_of_ble_eq_true rfl) dX6_isPossible_115 rfl rfl ?_
        refine J_if_eq (tgt := 130) (pc1 := 121) dX6_isPossible_118 (by decide) (fun q18 => ?_) rfl (fun q18 => ?_)
        · rw [if_pos q18] at h
          refine J_iconst (v := 0) (pc1 := 131) dX6_isPossible_130 (by decide) rfl ?_
          cases h
          exact J_zret (by decide) hr hlk dX6_isPossible_131
        · rw [if_neg q18] at h
          refine J_iload_n (i := 2) (q := 3) (pc1 := 122) dX6_isPossible_121 rfl rfl rfl ?_
          refine J_iload_n (i := 3) (q := 4) (pc1 := 123) dX6_isPossible_122 rfl rfl rfl ?_
          refine J_icmp_eq (tgt := 130) (pc1 := 126) dX6_isPossible_123 (by decide) (fun q19 => ?_) rfl (fun q19 => ?_)
          · rw [if_pos q19] at h
            refine J_iconst (v := 0) (pc1 := 131) dX6_isPossible_130 (by decide) rfl ?_
            cases h
            exact J_zret (by decide) hr hlk dX6_isPossible_131
          · rw [if_neg q19] at h
            refine J_iconst (v := 1) (pc1 := 127) dX6_isPossible_126 (by decide) rfl ?_
            refine J_goto (tgt := 131) dX6_isPossible_127 (by decide) ?_
            cases h
            exact J_zret (by decide) hr hlk dX6_isPossible_131
      rw [if_neg q15] at h
      by_cases q20 : a1 = 5
      · rw [if_pos q20] at h
        refine J_swIn (v := 5) (off := 58) (tgt := 88) dX6_isPossible_30 q20 (by decide) ?_
        refine J_aload (i := 4) (q := 0) (pc1 := 90) dX6_isPossible_88 rfl rfl ?_
        refine J_getI (T := TX4) (pc1 := 93) (eC11 (gRep hnc.1 h5)) rfl rfl inX4 6 (by decide) rfl flX6_130 rfl dX6_isPossible_90 rfl ?_
        refine J_iconst (v := 2) (pc1 := 94) dX6_isPossible_93 (by decide) rfl ?_
        refine J_icmp_ne (tgt := 112) (pc1 := 97) dX6_isPossible_94 (by decide) (fun q21 => ?_) rfl (fun q21 => ?_)
        · rw [if_neg q21] at h
          refine J_iconst (v := 0) (pc1 := 113) dX6_isPossible_112 (by decide) rfl ?_
          cases h
          exact J_zret (by decide) hr hlk dX6_isPossible_113
        · rw [if_pos q21] at h
          refine J_aload (i := 4) (q := 0) (pc1 := 99) dX6_isPossible_97 rfl rfl ?_
          refine J_getR (T := TX4) (f' := 12) (i' := (5 * 0 + (a2.toNatClampNeg))) (pc1 := 102) (eC11 (gRep hnc.1 h5)) rfl rfl inX4 1 (by decide) rfl rfl flX6_120 rfl dX6_isPossible_99 rfl ?_
          obtain ⟨r23, hc22, h⟩ := gBp_s h
          refine J_callV (As := []) (ad := ad) (f := 12) (i := (5 * 0 + (a2.toNatClampNeg))) (st := []) (st1 := [.int r23]) (pc1 := 105) (kX1_isFull l D tc sa ad nc hnc hI (5 * 0 + (a2.toNatClampNeg)) (gRep hnc.1 h5) μ r23 hc22) wcX1_isFull wlX6_135 (eC12 (gRep hnc.1 h5)) rfl rfl rfl ⟨rfl, rfl, Nat.le_of_ble_eq_true rfl, Nat.le_of_ble_eq_true rfl⟩ ⟨Nat.zero_le _, Nat.zero_le _⟩ (Nat.le_of_ble_eq_true rfl) dX6_isPossible_102 rfl rfl ?_
          refine J_if_ne (tgt := 112) (pc1 := 108) dX6_isPossible_105 (by decide) (fun q24 => ?_) rfl (fun q24 => ?_)
          · rw [if_neg q24] at h
            refine J_iconst (v := 0) (pc1 := 113) dX6_isPossible_112 (by decide) rfl ?_
            cases h
            exact J_zret (by decide) hr hlk dX6_isPossible_113
          · rw [if_pos q24] at h
            refine J_iconst (v := 1) (pc1 := 109) dX6_isPossible_108 (by decide) rfl ?_
            refine J_goto (tgt := 113) dX6_isPossible_109 (by decide) ?_
            cases h
            exact J_zret (by decide) hr hlk dX6_isPossible_113
      rw [if_neg q20] at h
      by_cases q25 : a1 = 6
      · rw [if_pos q25] at h
        refine J_swIn (v := 6) (off := 38) (tgt := 68) dX6_isPossible_30 q25 (by decide) ?_
        refine J_aload (i := 4) (q := 0) (pc1 := 70) dX6_isPossible_68 rfl rfl ?_
        refine J_getI (T := TX4) (pc1 := 73) (eC11 (gRep hnc.1 h5)) rfl rfl inX4 5 (by decide) rfl flX6_97 rfl dX6_isPossible_70 rfl ?_
        obtain ⟨h26, h⟩ := gChk_s h
        cases h
        exact J_zret h26 hr hlk dX6_isPossible_73
      rw [if_neg q25] at h
      refine J_swOut (tgt := 114) dX6_isPossible_30 (by have := i32_ne (k := 1) q6 (by decide); have := i32_ne (k := 2) q8 (by decide); have := i32_ne (k := 3) q10 (by decide); have := i32_ne (k := 4) q15 (by decide); have := i32_ne (k := 5) q20 (by decide); have := i32_ne (k := 6) q25 (by decide); omega) (by decide) ?_
      refine J_iload_n (i := 3) (q := 4) (pc1 := 115) dX6_isPossible_114 rfl rfl rfl ?_
      obtain ⟨r28, hc27, h⟩ := gBp_s h
      refine J_callS (As := [.int a3]) (st := []) (st1 := [.int r28]) (pc1 := 118) (kX6_isNode l D tc sa ad nc hnc hI a3 μ r28 hc27) wcX6_isNode wlX6_75 rfl ⟨rfl, rfl, Nat.le_of_ble_eq_true rfl, Nat.le_of_ble_eq_true rfl⟩ ⟨Nat.zero_le _, Nat.zero_le _⟩ (Nat.le_of_ble_eq_true rfl) dX6_isPossible_115 rfl rfl ?_
      refine J_if_eq (tgt := 130) (pc1 := 121) dX6_isPossible_118 (by decide) (fun q29 => ?_) rfl (fun q29 => ?_)
      · rw [if_pos q29] at h
        refine J_iconst (v := 0) (pc1 := 131) dX6_isPossible_130 (by decide) rfl ?_
        cases h
        exact J_zret (by decide) hr hlk dX6_isPossible_131
      · rw [if_neg q29] at h
        refine J_iload_n (i := 2) (q := 3) (pc1 := 122) dX6_isPossible_121 rfl rfl rfl ?_
        refine J_iload_n (i := 3) (q := 4) (pc1 := 123) dX6_isPossible_122 rfl rfl rfl ?_
        refine J_icmp_eq (tgt := 130) (pc1 := 126) dX6_isPossible_123 (by decide) (fun q30 => ?_) rfl (fun q30 => ?_)
        · rw [if_pos q30] at h
          refine J_iconst (v := 0) (pc1 := 131) dX6_isPossible_130 (by decide) rfl ?_
          cases h
          exact J_zret (by decide) hr hlk dX6_isPossible_131
        · rw [if_neg q30] at h
          refine J_iconst (v := 1) (pc1 := 127) dX6_isPossible_126 (by decide) rfl ?_
          refine J_goto (tgt := 131) dX6_isPossible_127 (by decide) ?_
          cases h
          exact J_zret (by decide) hr hlk dX6_isPossible_131
    · rw [if_pos q4] at h
      refine J_iconst (v := 0) (pc1 := 17) dX6_isPossible_16 (by decide) rfl ?_
      cases h
      exact J_zret (by decide) hr hlk dX6_isPossible_17
  · rw [if_pos q1] at h
    refine J_iload_n (i := 2) (q := 2) (pc1 := 5) dX6_isPossible_4 rfl rfl rfl ?_
    obtain ⟨r32, hc31, h⟩ := gBp_s h
    refine J_callS (As := [.int a2]) (st := []) (st1 := [.int r32]) (pc1 := 8) (kX6_areTicks l D tc sa ad nc hnc hI a2 μ r32 hc31) wcX6_areTicks wlX6_51 rfl ⟨rfl, rfl, Nat.le_of_ble_eq_true rfl, Nat.le_of_ble_eq_true rfl⟩ ⟨Nat.zero_le _, Nat.zero_le _⟩ (Nat.le_of_ble_eq_true rfl) dX6_isPossible_5 rfl rfl ?_
    obtain ⟨h33, h⟩ := gChk_s h
    cases h
    exact J_zret h33 hr hlk dX6_isPossible_8
def mX6_replicaAt (nc : Nat) (a1 : Int32) (μ : gM) : Option (Sum (String × gM) (Nat)) :=
  gJon (fun (u2 : Unit) =>
      some (.inl ("java/lang/IndexOutOfBoundsException", μ))) fun j1 =>
  if a1 < 0 then
    j1 () 
  else
    if a1 < 5 then
      gChk (inb a1 5) <|
      some (.inr (5 * 0 + (a1.toNatClampNeg)))
    else
      j1 () 
set_option maxHeartbeats 4000000 in
set_option maxRecDepth 100000 in
theorem kX6_replicaAt (l : Launch) (D : va_G) (tc : Nat → ClassId) (sa : Nat → Nat) (ad : Nat → Nat → Nat) (nc : Nat) (hnc : 0 < nc ∧ nc ≤ 2) (hI : gI (gE_C nc) ad) (a1 : Int32) (μ : gM) (r : Nat) (h : mX6_replicaAt nc a1 μ = some (.inr r)) : gMet l yX6_replicaAt cX6_replicaAt 2 (some (.object "QuorumLog$Replica")) ({ frames := 0, cells := 0, slots := 0, locals := 0 } : Room) D (gE_C nc) gkd_C tc ad (grh_C nc) sa [.ref (ad 0 0), .int a1] μ (some (.ref (ad 11 r))) μ := by
  refine gMet_of hI ⟨by decide +kernel, Nat.le_of_ble_eq_true rfl⟩ (fun p e s m args below meth c sz hr hlk => ?_)
  unfold mX6_replicaAt at h
  show JC p l e ({ frames := 0, cells := 0, slots := 0, locals := 0 } : Room) s m args below meth c cX6_replicaAt 2 RX6 D tc sa ad nc sz (some (.ref (ad 11 r))) μ μ 0 [(0, .ref (ad 0 0)), (1, .int a1)] []
  refine J_iload_n (i := 1) (q := 1) (pc1 := 1) dX6_replicaAt_0 rfl rfl rfl ?_
  obtain ⟨j1, ej1, h⟩ := gJon_s h
  have kj1 : ∀ (u2 : Unit), j1 u2 = some (.inr r) → JC p l e ({ frames := 0, cells := 0, slots := 0, locals := 0 } : Room) s m args below meth c cX6_replicaAt 2 RX6 D tc sa ad nc sz (some (.ref (ad 11 r))) μ μ 9 [] [] := by
    intro u2 h
    rw [ej1] at h
    try dsimp only at h
    cases h
  clear ej1
  refine J_if_lt (tgt := 9) (pc1 := 4) dX6_replicaAt_1 (by decide) (fun q3 => ?_) rfl (fun q3 => ?_)
  · rw [if_pos q3] at h
    refine J_sub [] (lv1 := []) rfl ?_
    exact kj1 ()  h
  · rw [if_neg q3] at h
    refine J_iload_n (i := 1) (q := 1) (pc1 := 5) dX6_replicaAt_4 rfl rfl rfl ?_
    refine J_iconst (v := 5) (pc1 := 6) dX6_replicaAt_5 (by decide) rfl ?_
    refine J_icmp_lt (tgt := 19) (pc1 := 9) dX6_replicaAt_6 (by decide) (fun q4 => ?_) rfl (fun q4 => ?_)
    · rw [if_pos q4] at h
      refine J_aload_n (i := 0) (q := 0) (pc1 := 20) dX6_replicaAt_19 rfl rfl rfl ?_
      refine J_getR (T := TX6) (f' := 6) (i' := 0) (pc1 := 23) eC0 rfl rfl inX6 0 (by decide) rfl rfl flX6_12 rfl dX6_replicaAt_20 rfl ?_
      refine J_getR (T := TX0) (f' := 7) (i' := 0) (pc1 := 26) (eC6 hnc.1) rfl rfl inX0 0 (by decide) rfl rfl flX6_263 rfl dX6_replicaAt_23 rfl ?_
      refine J_iload_n (i := 1) (q := 1) (pc1 := 27) dX6_replicaAt_26 rfl rfl rfl ?_
      obtain ⟨h5, h⟩ := gChk_s h
      refine J_aald (f' := 11) (i' := (5 * 0 + (a1.toNatClampNeg))) (pc1 := 28) (eC7 hnc.1) rfl rfl h5 rfl dX6_replicaAt_27 rfl ?_
      cases h
      exact J_aret hr hlk dX6_replicaAt_28
    · rw [if_neg q4] at h
      refine J_sub [] (lv1 := []) rfl ?_
      exact kj1 ()  h
set_option maxHeartbeats 4000000 in
set_option maxRecDepth 100000 in
theorem tX6_replicaAt (l : Launch) (D : va_G) (tc : Nat → ClassId) (sa : Nat → Nat) (ad : Nat → Nat → Nat) (nc : Nat) (hnc : 0 < nc ∧ nc ≤ 2) (hI : gI (gE_C nc) ad) (a1 : Int32) (μ : gM) (hlz : l.stackTraces = false) (E0 : String) (μ' : gM) (h : mX6_replicaAt nc a1 μ = some (.inl (E0, μ'))) : gMetX l yX6_replicaAt cX6_replicaAt 2 (some (.object "QuorumLog$Replica")) ({ frames := 6, cells := 1, slots := 6, locals := 100 } : Room) D (gE_C nc) gkd_C tc ad (grh_C nc) sa [.ref (ad 0 0), .int a1] μ E0 μ' := by
  refine gMetX_of hI ⟨by decide +kernel, Nat.le_of_ble_eq_true rfl⟩ (fun p e s m args below meth c sz hr hlk hT => ?_)
  unfold mX6_replicaAt at h
  show JCX p l e ({ frames := 6, cells := 1, slots := 6, locals := 100 } : Room) s m args below meth c cX6_replicaAt 2 RX6 D tc sa ad nc sz E0 μ' μ 0 [(0, .ref (ad 0 0)), (1, .int a1)] []
  refine J_iload_n (i := 1) (q := 1) (pc1 := 1) dX6_replicaAt_0 rfl rfl rfl ?_
  obtain ⟨j1, ej1, h⟩ := gJon_s h
  have kj1 : ∀ (u2 : Unit), j1 u2 = some (.inl (E0, μ')) → JCX p l e ({ frames := 6, cells := 1, slots := 6, locals := 100 } : Room) s m args below meth c cX6_replicaAt 2 RX6 D tc sa ad nc sz E0 μ' μ 9 [] [] := by
    intro u2 h
    rw [ej1] at h
    try dsimp only at h
    cases h
    exact J_throwS (i := 3) (text := jsT 3) hlz hT xf_IndexOutOfBoundsException clX6_78 ini_IndexOutOfBoundsException ⟨by decide, rfl, rfl, rfl⟩ (xh_IndexOutOfBoundsException clX6_78) hlk dX6_replicaAt_9 dX6_replicaAt_12 dX6_replicaAt_13 dX6_replicaAt_15 dX6_replicaAt_18 ⟨by decide, by decide, by decide, by decide⟩
  clear ej1
  refine J_if_lt (tgt := 9) (pc1 := 4) dX6_replicaAt_1 (by decide) (fun q3 => ?_) rfl (fun q3 => ?_)
  · rw [if_pos q3] at h
    refine J_sub [] (lv1 := []) rfl ?_
    exact kj1 ()  h
  · rw [if_neg q3] at h
    refine J_iload_n (i := 1) (q := 1) (pc1 := 5) dX6_replicaAt_4 rfl rfl rfl ?_
    refine J_iconst (v := 5) (pc1 := 6) dX6_replicaAt_5 (by decide) rfl ?_
    refine J_icmp_lt (tgt := 19) (pc1 := 9) dX6_replicaAt_6 (by decide) (fun q4 => ?_) rfl (fun q4 => ?_)
    · rw [if_pos q4] at h
      refine J_aload_n (i := 0) (q := 0) (pc1 := 20) dX6_replicaAt_19 rfl rfl rfl ?_
      refine J_getR (T := TX6) (f' := 6) (i' := 0) (pc1 := 23) eC0 rfl rfl inX6 0 (by decide) rfl rfl flX6_12 rfl dX6_replicaAt_20 rfl ?_
      refine J_getR (T := TX0) (f' := 7) (i' := 0) (pc1 := 26) (eC6 hnc.1) rfl rfl inX0 0 (by decide) rfl rfl flX6_263 rfl dX6_replicaAt_23 rfl ?_
      refine J_iload_n (i := 1) (q := 1) (pc1 := 27) dX6_replicaAt_26 rfl rfl rfl ?_
      obtain ⟨h5, h⟩ := gChk_s h
      refine J_aald (f' := 11) (i' := (5 * 0 + (a1.toNatClampNeg))) (pc1 := 28) (eC7 hnc.1) rfl rfl h5 rfl dX6_replicaAt_27 rfl ?_
      cases h
    · rw [if_neg q4] at h
      refine J_sub [] (lv1 := []) rfl ?_
      exact kj1 ()  h
def mX6_start (nc : Nat) (a1 : Int32) (a2 : Int32) (μ : gM) : Option (Sum (String × gM) ((Int32 × gM))) :=
  gBp (mX6_isGroup nc a1 μ) fun r2 =>
  if r2 = 0 then
    some (.inl ("java/lang/IllegalArgumentException", μ))
  else
    gBp (mX0_begin nc 0 a1 a2 μ) fun μ5 =>
    gBp (mJ6_bitCount_0f7a4 nc a1 μ5) fun r7 =>
    some (.inr (r7, μ5))
set_option maxHeartbeats 4000000 in
set_option maxRecDepth 100000 in
theorem kX6_start (l : Launch) (D : va_G) (tc : Nat → ClassId) (sa : Nat → Nat) (ad : Nat → Nat → Nat) (nc : Nat) (hnc : 0 < nc ∧ nc ≤ 2) (hI : gI (gE_C nc) ad) (a1 : Int32) (a2 : Int32) (μ : gM) (r : Int32) (μ' : gM) (h : mX6_start nc a1 a2 μ = some (.inr (r, μ'))) : gMet l yX6_start cX6_start 3 (some .int) ({ frames := 5, cells := 0, slots := 0, locals := 107 } : Room) D (gE_C nc) gkd_C tc ad (grh_C nc) sa [.ref (ad 0 0), .int a1, .int a2] μ (some (.int r)) μ' := by
  refine gMet_of hI ⟨by decide +kernel, Nat.le_of_ble_eq_true rfl⟩ (fun p e s m args below meth c sz hr hlk => ?_)
  unfold mX6_start at h
  show JC p l e ({ frames := 5, cells := 0, slots := 0, locals := 107 } : Room) s m args below meth c cX6_start 3 RX6 D tc sa ad nc sz (some (.int r)) μ' μ 0 [(0, .ref (ad 0 0)), (1, .int a1), (2, .int a2)] []
  refine J_iload_n (i := 1) (q := 1) (pc1 := 1) dX6_start_0 rfl rfl rfl ?_
  obtain ⟨r2, hc1, h⟩ := gBp_s h
  refine J_callS (As := [.int a1]) (st := []) (st1 := [.int r2]) (pc1 := 4) (kX6_isGroup l D tc sa ad nc hnc hI a1 μ r2 hc1) wcX6_isGroup wlX6_34 rfl ⟨rfl, rfl, Nat.le_of_ble_eq_true rfl, Nat.le_of_ble_eq_true rfl⟩ ⟨Nat.zero_le _, Nat.zero_le _⟩ (Nat.le_of_ble_eq_true rfl) dX6_start_1 rfl rfl ?_
  refine J_if_ne (tgt := 17) (pc1 := 7) dX6_start_4 (by decide) (fun q3 => ?_) rfl (fun q3 => ?_)
  · rw [if_neg q3] at h
    refine J_aload_n (i := 0) (q := 0) (pc1 := 18) dX6_start_17 rfl rfl rfl ?_
    refine J_getR (T := TX6) (f' := 6) (i' := 0) (pc1 := 21) eC0 rfl rfl inX6 0 (by decide) rfl rfl flX6_12 rfl dX6_start_18 rfl ?_
    refine J_iload_n (i := 1) (q := 1) (pc1 := 22) dX6_start_21 rfl rfl rfl ?_
    refine J_iload_n (i := 2) (q := 2) (pc1 := 23) dX6_start_22 rfl rfl rfl ?_
    obtain ⟨μ5, hc4, h⟩ := gBp_s h
    refine J_callV (As := [.int a1, .int a2]) (ad := ad) (f := 6) (i := 0) (st := []) (st1 := []) (pc1 := 26) (kX0_begin l D tc sa ad nc hnc hI 0 (hnc.1) a1 a2 μ μ5 hc4) wcX0_begin wlX6_30 (eC6 hnc.1) rfl rfl rfl ⟨rfl, rfl, Nat.le_of_ble_eq_true rfl, Nat.le_of_ble_eq_true rfl⟩ ⟨Nat.zero_le _, Nat.zero_le _⟩ (Nat.le_of_ble_eq_true rfl) dX6_start_23 rfl rfl ?_
    refine J_iload_n (i := 1) (q := 1) (pc1 := 27) dX6_start_26 rfl rfl rfl ?_
    obtain ⟨r7, hc6, h⟩ := gBp_s h
    refine J_callS (As := [.int a1]) (st := []) (st1 := [.int r7]) (pc1 := 30) (kJ6_bitCount_0f7a4 l D tc sa ad nc hnc hI a1 μ5 r7 hc6) wcJ6_bitCount_0f7a4 wlX6_45 rfl ⟨rfl, rfl, Nat.le_of_ble_eq_true rfl, Nat.le_of_ble_eq_true rfl⟩ ⟨Nat.zero_le _, Nat.zero_le _⟩ (Nat.le_of_ble_eq_true rfl) dX6_start_27 rfl rfl ?_
    cases h
    exact J_iret hr hlk dX6_start_30
  · rw [if_pos q3] at h
    cases h
set_option maxHeartbeats 4000000 in
set_option maxRecDepth 100000 in
theorem tX6_start (l : Launch) (D : va_G) (tc : Nat → ClassId) (sa : Nat → Nat) (ad : Nat → Nat → Nat) (nc : Nat) (hnc : 0 < nc ∧ nc ≤ 2) (hI : gI (gE_C nc) ad) (a1 : Int32) (a2 : Int32) (μ : gM) (hlz : l.stackTraces = false) (E0 : String) (μ' : gM) (h : mX6_start nc a1 a2 μ = some (.inl (E0, μ'))) : gMetX l yX6_start cX6_start 3 (some .int) ({ frames := 6, cells := 1, slots := 6, locals := 107 } : Room) D (gE_C nc) gkd_C tc ad (grh_C nc) sa [.ref (ad 0 0), .int a1, .int a2] μ E0 μ' := by
  refine gMetX_of hI ⟨by decide +kernel, Nat.le_of_ble_eq_true rfl⟩ (fun p e s m args below meth c sz hr hlk hT => ?_)
  unfold mX6_start at h
  show JCX p l e ({ frames := 6, cells := 1, slots := 6, locals := 107 } : Room) s m args below meth c cX6_start 3 RX6 D tc sa ad nc sz E0 μ' μ 0 [(0, .ref (ad 0 0)), (1, .int a1), (2, .int a2)] []
  refine J_iload_n (i := 1) (q := 1) (pc1 := 1) dX6_start_0 rfl rfl rfl ?_
  obtain ⟨r2, hc1, h⟩ := gBp_s h
  refine J_callS (As := [.int a1]) (st := []) (st1 := [.int r2]) (pc1 := 4) (kX6_isGroup l D tc sa ad nc hnc hI a1 μ r2 hc1) wcX6_isGroup wlX6_34 rfl ⟨rfl, rfl, Nat.le_of_ble_eq_true rfl, Nat.le_of_ble_eq_true rfl⟩ ⟨Nat.zero_le _, Nat.zero_le _⟩ (Nat.le_of_ble_eq_true rfl) dX6_start_1 rfl rfl ?_
  refine J_if_ne (tgt := 17) (pc1 := 7) dX6_start_4 (by decide) (fun q3 => ?_) rfl (fun q3 => ?_)
  · rw [if_neg q3] at h
    refine J_aload_n (i := 0) (q := 0) (pc1 := 18) dX6_start_17 rfl rfl rfl ?_
    refine J_getR (T := TX6) (f' := 6) (i' := 0) (pc1 := 21) eC0 rfl rfl inX6 0 (by decide) rfl rfl flX6_12 rfl dX6_start_18 rfl ?_
    refine J_iload_n (i := 1) (q := 1) (pc1 := 22) dX6_start_21 rfl rfl rfl ?_
    refine J_iload_n (i := 2) (q := 2) (pc1 := 23) dX6_start_22 rfl rfl rfl ?_
    obtain ⟨μ5, hc4, h⟩ := gBp_s h
    refine J_callV (As := [.int a1, .int a2]) (ad := ad) (f := 6) (i := 0) (st := []) (st1 := []) (pc1 := 26) (kX0_begin l D tc sa ad nc hnc hI 0 (hnc.1) a1 a2 μ μ5 hc4) wcX0_begin wlX6_30 (eC6 hnc.1) rfl rfl rfl ⟨rfl, rfl, Nat.le_of_ble_eq_true rfl, Nat.le_of_ble_eq_true rfl⟩ ⟨Nat.zero_le _, Nat.zero_le _⟩ (Nat.le_of_ble_eq_true rfl) dX6_start_23 rfl rfl ?_
    refine J_iload_n (i := 1) (q := 1) (pc1 := 27) dX6_start_26 rfl rfl rfl ?_
    obtain ⟨r7, hc6, h⟩ := gBp_s h
    refine J_callS (As := [.int a1]) (st := []) (st1 := [.int r7]) (pc1 := 30) (kJ6_bitCount_0f7a4 l D tc sa ad nc hnc hI a1 μ5 r7 hc6) wcJ6_bitCount_0f7a4 wlX6_45 rfl ⟨rfl, rfl, Nat.le_of_ble_eq_true rfl, Nat.le_of_ble_eq_true rfl⟩ ⟨Nat.zero_le _, Nat.zero_le _⟩ (Nat.le_of_ble_eq_true rfl) dX6_start_27 rfl rfl ?_
    cases h
  · rw [if_pos q3] at h
    cases h
    exact J_throwS (i := 0) (text := jsT 0) hlz hT xf_IllegalArgumentException clX6_38 ini_IllegalArgumentException ⟨by decide, rfl, rfl, rfl⟩ (xh_IllegalArgumentException clX6_38) hlk dX6_start_7 dX6_start_10 dX6_start_11 dX6_start_13 dX6_start_16 ⟨by decide, by decide, by decide, by decide⟩
def mX6_tick (nc : Nat) (a1 : Int32) (μ : gM) : Option (Sum (String × gM) ((Int32 × gM))) :=
  gBp (mX6_areTicks nc a1 μ) fun r2 =>
  if r2 = 0 then
    some (.inl ("java/lang/IllegalArgumentException", μ))
  else
    gBp (mX0_advance nc 0 a1 μ) fun μ5 =>
    some (.inr (μ5 6 0 4, μ5))
set_option maxHeartbeats 4000000 in
set_option maxRecDepth 100000 in
theorem kX6_tick (l : Launch) (D : va_G) (tc : Nat → ClassId) (sa : Nat → Nat) (ad : Nat → Nat → Nat) (nc : Nat) (hnc : 0 < nc ∧ nc ≤ 2) (hI : gI (gE_C nc) ad) (a1 : Int32) (μ : gM) (r : Int32) (μ' : gM) (h : mX6_tick nc a1 μ = some (.inr (r, μ'))) : gMet l yX6_tick cX6_tick 2 (some .int) ({ frames := 6, cells := 0, slots := 0, locals := 192 } : Room) D (gE_C nc) gkd_C tc ad (grh_C nc) sa [.ref (ad 0 0), .int a1] μ (some (.int r)) μ' := by
  refine gMet_of hI ⟨by decide +kernel, Nat.le_of_ble_eq_true rfl⟩ (fun p e s m args below meth c sz hr hlk => ?_)
  unfold mX6_tick at h
  show JC p l e ({ frames := 6, cells := 0, slots := 0, locals := 192 } : Room) s m args below meth c cX6_tick 2 RX6 D tc sa ad nc sz (some (.int r)) μ' μ 0 [(0, .ref (ad 0 0)), (1, .int a1)] []
  refine J_iload_n (i := 1) (q := 1) (pc1 := 1) dX6_tick_0 rfl rfl rfl ?_
  obtain ⟨r2, hc1, h⟩ := gBp_s h
  refine J_callS (As := [.int a1]) (st := []) (st1 := [.int r2]) (pc1 := 4) (kX6_areTicks l D tc sa ad nc hnc hI a1 μ r2 hc1) wcX6_areTicks wlX6_51 rfl ⟨rfl, rfl, Nat.le_of_ble_eq_true rfl, Nat.le_of_ble_eq_true rfl⟩ ⟨Nat.zero_le _, Nat.zero_le _⟩ (Nat.le_of_ble_eq_true rfl) dX6_tick_1 rfl rfl ?_
  refine J_if_ne (tgt := 17) (pc1 := 7) dX6_tick_4 (by decide) (fun q3 => ?_) rfl (fun q3 => ?_)
  · rw [if_neg q3] at h
    refine J_aload_n (i := 0) (q := 0) (pc1 := 18) dX6_tick_17 rfl rfl rfl ?_
    refine J_getR (T := TX6) (f' := 6) (i' := 0) (pc1 := 21) eC0 rfl rfl inX6 0 (by decide) rfl rfl flX6_12 rfl dX6_tick_18 rfl ?_
    refine J_iload_n (i := 1) (q := 1) (pc1 := 22) dX6_tick_21 rfl rfl rfl ?_
    obtain ⟨μ5, hc4, h⟩ := gBp_s h
    refine J_callV (As := [.int a1]) (ad := ad) (f := 6) (i := 0) (st := []) (st1 := []) (pc1 := 25) (kX0_advance l D tc sa ad nc hnc hI 0 (hnc.1) a1 μ μ5 hc4) wcX0_advance wlX6_56 (eC6 hnc.1) rfl rfl rfl ⟨rfl, rfl, Nat.le_of_ble_eq_true rfl, Nat.le_of_ble_eq_true rfl⟩ ⟨Nat.zero_le _, Nat.zero_le _⟩ (Nat.le_of_ble_eq_true rfl) dX6_tick_22 rfl rfl ?_
    refine J_aload_n (i := 0) (q := 0) (pc1 := 26) dX6_tick_25 rfl rfl rfl ?_
    refine J_getR (T := TX6) (f' := 6) (i' := 0) (pc1 := 29) eC0 rfl rfl inX6 0 (by decide) rfl rfl flX6_12 rfl dX6_tick_26 rfl ?_
    refine J_getI (T := TX0) (pc1 := 32) (eC6 hnc.1) rfl rfl inX0 4 (by decide) rfl flX6_60 rfl dX6_tick_29 rfl ?_
    cases h
    exact J_iret hr hlk dX6_tick_32
  · rw [if_pos q3] at h
    cases h
set_option maxHeartbeats 4000000 in
set_option maxRecDepth 100000 in
theorem tX6_tick (l : Launch) (D : va_G) (tc : Nat → ClassId) (sa : Nat → Nat) (ad : Nat → Nat → Nat) (nc : Nat) (hnc : 0 < nc ∧ nc ≤ 2) (hI : gI (gE_C nc) ad) (a1 : Int32) (μ : gM) (hlz : l.stackTraces = false) (E0 : String) (μ' : gM) (h : mX6_tick nc a1 μ = some (.inl (E0, μ'))) : gMetX l yX6_tick cX6_tick 2 (some .int) ({ frames := 6, cells := 1, slots := 6, locals := 192 } : Room) D (gE_C nc) gkd_C tc ad (grh_C nc) sa [.ref (ad 0 0), .int a1] μ E0 μ' := by
  refine gMetX_of hI ⟨by decide +kernel, Nat.le_of_ble_eq_true rfl⟩ (fun p e s m args below meth c sz hr hlk hT => ?_)
  unfold mX6_tick at h
  show JCX p l e ({ frames := 6, cells := 1, slots := 6, locals := 192 } : Room) s m args below meth c cX6_tick 2 RX6 D tc sa ad nc sz E0 μ' μ 0 [(0, .ref (ad 0 0)), (1, .int a1)] []
  refine J_iload_n (i := 1) (q := 1) (pc1 := 1) dX6_tick_0 rfl rfl rfl ?_
  obtain ⟨r2, hc1, h⟩ := gBp_s h
  refine J_callS (As := [.int a1]) (st := []) (st1 := [.int r2]) (pc1 := 4) (kX6_areTicks l D tc sa ad nc hnc hI a1 μ r2 hc1) wcX6_areTicks wlX6_51 rfl ⟨rfl, rfl, Nat.le_of_ble_eq_true rfl, Nat.le_of_ble_eq_true rfl⟩ ⟨Nat.zero_le _, Nat.zero_le _⟩ (Nat.le_of_ble_eq_true rfl) dX6_tick_1 rfl rfl ?_
  refine J_if_ne (tgt := 17) (pc1 := 7) dX6_tick_4 (by decide) (fun q3 => ?_) rfl (fun q3 => ?_)
  · rw [if_neg q3] at h
    refine J_aload_n (i := 0) (q := 0) (pc1 := 18) dX6_tick_17 rfl rfl rfl ?_
    refine J_getR (T := TX6) (f' := 6) (i' := 0) (pc1 := 21) eC0 rfl rfl inX6 0 (by decide) rfl rfl flX6_12 rfl dX6_tick_18 rfl ?_
    refine J_iload_n (i := 1) (q := 1) (pc1 := 22) dX6_tick_21 rfl rfl rfl ?_
    obtain ⟨μ5, hc4, h⟩ := gBp_s h
    refine J_callV (As := [.int a1]) (ad := ad) (f := 6) (i := 0) (st := []) (st1 := []) (pc1 := 25) (kX0_advance l D tc sa ad nc hnc hI 0 (hnc.1) a1 μ μ5 hc4) wcX0_advance wlX6_56 (eC6 hnc.1) rfl rfl rfl ⟨rfl, rfl, Nat.le_of_ble_eq_true rfl, Nat.le_of_ble_eq_true rfl⟩ ⟨Nat.zero_le _, Nat.zero_le _⟩ (Nat.le_of_ble_eq_true rfl) dX6_tick_22 rfl rfl ?_
    refine J_aload_n (i := 0) (q := 0) (pc1 := 26) dX6_tick_25 rfl rfl rfl ?_
    refine J_getR (T := TX6) (f' := 6) (i' := 0) (pc1 := 29) eC0 rfl rfl inX6 0 (by decide) rfl rfl flX6_12 rfl dX6_tick_26 rfl ?_
    refine J_getI (T := TX0) (pc1 := 32) (eC6 hnc.1) rfl rfl inX0 4 (by decide) rfl flX6_60 rfl dX6_tick_29 rfl ?_
    cases h
  · rw [if_pos q3] at h
    cases h
    exact J_throwS (i := 1) (text := jsT 1) hlz hT xf_IllegalArgumentException clX6_38 ini_IllegalArgumentException ⟨by decide, rfl, rfl, rfl⟩ (xh_IllegalArgumentException clX6_38) hlk dX6_tick_7 dX6_tick_10 dX6_tick_11 dX6_tick_13 dX6_tick_16 ⟨by decide, by decide, by decide, by decide⟩
def mX6_setDelay (nc : Nat) (a1 : Int32) (μ : gM) : Option (Sum (String × gM) ((Int32 × gM))) :=
  gJon (fun (u2 : Unit) =>
      some (.inl ("java/lang/IllegalArgumentException", μ))) fun j1 =>
  if a1 < 1 then
    j1 () 
  else
    if a1 ≤ 5 then
      gLet (α := Int32) (μ 9 0 5) fun x5 =>
      gLet (α := gM) (w3 μ 9 0 5 a1) fun μ9 =>
      some (.inr (x5, μ9))
    else
      j1 () 
set_option maxHeartbeats 4000000 in
set_option maxRecDepth 100000 in
theorem kX6_setDelay (l : Launch) (D : va_G) (tc : Nat → ClassId) (sa : Nat → Nat) (ad : Nat → Nat → Nat) (nc : Nat) (hnc : 0 < nc ∧ nc ≤ 2) (hI : gI (gE_C nc) ad) (a1 : Int32) (μ : gM) (r : Int32) (μ' : gM) (h : mX6_setDelay nc a1 μ = some (.inr (r, μ'))) : gMet l yX6_setDelay cX6_setDelay 3 (some .int) ({ frames := 0, cells := 0, slots := 0, locals := 0 } : Room) D (gE_C nc) gkd_C tc ad (grh_C nc) sa [.ref (ad 0 0), .int a1] μ (some (.int r)) μ' := by
  refine gMet_of hI ⟨by decide +kernel, Nat.le_of_ble_eq_true rfl⟩ (fun p e s m args below meth c sz hr hlk => ?_)
  unfold mX6_setDelay at h
  show JC p l e ({ frames := 0, cells := 0, slots := 0, locals := 0 } : Room) s m args below meth c cX6_setDelay 3 RX6 D tc sa ad nc sz (some (.int r)) μ' μ 0 [(0, .ref (ad 0 0)), (1, .int a1)] []
  refine J_iload_n (i := 1) (q := 1) (pc1 := 1) dX6_setDelay_0 rfl rfl rfl ?_
  refine J_iconst (v := 1) (pc1 := 2) dX6_setDelay_1 (by decide) rfl ?_
  obtain ⟨j1, ej1, h⟩ := gJon_s h
  have kj1 : ∀ (u2 : Unit), j1 u2 = some (.inr (r, μ')) → JC p l e ({ frames := 0, cells := 0, slots := 0, locals := 0 } : Room) s m args below meth c cX6_setDelay 3 RX6 D tc sa ad nc sz (some (.int r)) μ' μ 10 [] [] := by
    intro u2 h
    rw [ej1] at h
    try dsimp only at h
    cases h
  clear ej1
  refine J_icmp_lt (tgt := 10) (pc1 := 5) dX6_setDelay_2 (by decide) (fun q3 => ?_) rfl (fun q3 => ?_)
  · rw [if_pos q3] at h
    refine J_sub [] (lv1 := []) rfl ?_
    exact kj1 ()  h
  · rw [if_neg q3] at h
    refine J_iload_n (i := 1) (q := 1) (pc1 := 6) dX6_setDelay_5 rfl rfl rfl ?_
    refine J_iconst (v := 5) (pc1 := 7) dX6_setDelay_6 (by decide) rfl ?_
    refine J_icmp_le (tgt := 20) (pc1 := 10) dX6_setDelay_7 (by decide) (fun q4 => ?_) rfl (fun q4 => ?_)
    · rw [if_pos q4] at h
      refine J_aload_n (i := 0) (q := 0) (pc1 := 21) dX6_setDelay_20 rfl rfl rfl ?_
      refine J_getR (T := TX6) (f' := 6) (i' := 0) (pc1 := 24) eC0 rfl rfl inX6 0 (by decide) rfl rfl flX6_12 rfl dX6_setDelay_21 rfl ?_
      refine J_getR (T := TX0) (f' := 9) (i' := 0) (pc1 := 27) (eC6 hnc.1) rfl rfl inX0 1 (by decide) rfl rfl flX6_66 rfl dX6_setDelay_24 rfl ?_
      refine J_getI (T := TX3) (pc1 := 30) (eC9 hnc.1) rfl rfl inX3 5 (by decide) rfl flX6_70 rfl dX6_setDelay_27 rfl ?_
      obtain ⟨x5, e7, h⟩ := gLet_s h
      refine J_top (fun y6 e8 => ?_)
      have e8x : x5 = y6 := (e8.trans e7.symm).symm
      subst e8x
      refine J_istore_n (i := 2) (lv1 := [(2, .int x5), (0, .ref (ad 0 0)), (1, .int a1)]) (pc1 := 31) dX6_setDelay_30 rfl (by decide) rfl rfl ?_
      refine J_aload_n (i := 0) (q := 1) (pc1 := 32) dX6_setDelay_31 rfl rfl rfl ?_
      refine J_getR (T := TX6) (f' := 6) (i' := 0) (pc1 := 35) eC0 rfl rfl inX6 0 (by decide) rfl rfl flX6_12 rfl dX6_setDelay_32 rfl ?_
      refine J_getR (T := TX0) (f' := 9) (i' := 0) (pc1 := 38) (eC6 hnc.1) rfl rfl inX0 1 (by decide) rfl rfl flX6_66 rfl dX6_setDelay_35 rfl ?_
      refine J_iload_n (i := 1) (q := 2) (pc1 := 39) dX6_setDelay_38 rfl rfl rfl ?_
      refine J_putI (T := TX3) (pc1 := 42) (eC9 hnc.1) rfl rfl inX3 tyX3 tyX3_ok nmX3 5 (by decide) rfl (gHrl9 (by decide) (by decide)) flX6_70 rfl rfl rfl rfl dX6_setDelay_39 rfl ?_
      obtain ⟨μ9, e10, h⟩ := gLet_s h
      rw [← e10]
      clear e10
      refine J_iload_n (i := 2) (q := 0) (pc1 := 43) dX6_setDelay_42 rfl rfl rfl ?_
      cases h
      exact J_iret hr hlk dX6_setDelay_43
    · rw [if_neg q4] at h
      refine J_sub [] (lv1 := []) rfl ?_
      exact kj1 ()  h
set_option maxHeartbeats 4000000 in
set_option maxRecDepth 100000 in
theorem tX6_setDelay (l : Launch) (D : va_G) (tc : Nat → ClassId) (sa : Nat → Nat) (ad : Nat → Nat → Nat) (nc : Nat) (hnc : 0 < nc ∧ nc ≤ 2) (hI : gI (gE_C nc) ad) (a1 : Int32) (μ : gM) (hlz : l.stackTraces = false) (E0 : String) (μ' : gM) (h : mX6_setDelay nc a1 μ = some (.inl (E0, μ'))) : gMetX l yX6_setDelay cX6_setDelay 3 (some .int) ({ frames := 6, cells := 1, slots := 6, locals := 100 } : Room) D (gE_C nc) gkd_C tc ad (grh_C nc) sa [.ref (ad 0 0), .int a1] μ E0 μ' := by
  refine gMetX_of hI ⟨by decide +kernel, Nat.le_of_ble_eq_true rfl⟩ (fun p e s m args below meth c sz hr hlk hT => ?_)
  unfold mX6_setDelay at h
  show JCX p l e ({ frames := 6, cells := 1, slots := 6, locals := 100 } : Room) s m args below meth c cX6_setDelay 3 RX6 D tc sa ad nc sz E0 μ' μ 0 [(0, .ref (ad 0 0)), (1, .int a1)] []
  refine J_iload_n (i := 1) (q := 1) (pc1 := 1) dX6_setDelay_0 rfl rfl rfl ?_
  refine J_iconst (v := 1) (pc1 := 2) dX6_setDelay_1 (by decide) rfl ?_
  obtain ⟨j1, ej1, h⟩ := gJon_s h
  have kj1 : ∀ (u2 : Unit), j1 u2 = some (.inl (E0, μ')) → JCX p l e ({ frames := 6, cells := 1, slots := 6, locals := 100 } : Room) s m args below meth c cX6_setDelay 3 RX6 D tc sa ad nc sz E0 μ' μ 10 [] [] := by
    intro u2 h
    rw [ej1] at h
    try dsimp only at h
    cases h
    exact J_throwS (i := 2) (text := jsT 2) hlz hT xf_IllegalArgumentException clX6_38 ini_IllegalArgumentException ⟨by decide, rfl, rfl, rfl⟩ (xh_IllegalArgumentException clX6_38) hlk dX6_setDelay_10 dX6_setDelay_13 dX6_setDelay_14 dX6_setDelay_16 dX6_setDelay_19 ⟨by decide, by decide, by decide, by decide⟩
  clear ej1
  refine J_icmp_lt (tgt := 10) (pc1 := 5) dX6_setDelay_2 (by decide) (fun q3 => ?_) rfl (fun q3 => ?_)
  · rw [if_pos q3] at h
    refine J_sub [] (lv1 := []) rfl ?_
    exact kj1 ()  h
  · rw [if_neg q3] at h
    refine J_iload_n (i := 1) (q := 1) (pc1 := 6) dX6_setDelay_5 rfl rfl rfl ?_
    refine J_iconst (v := 5) (pc1 := 7) dX6_setDelay_6 (by decide) rfl ?_
    refine J_icmp_le (tgt := 20) (pc1 := 10) dX6_setDelay_7 (by decide) (fun q4 => ?_) rfl (fun q4 => ?_)
    · rw [if_pos q4] at h
      refine J_aload_n (i := 0) (q := 0) (pc1 := 21) dX6_setDelay_20 rfl rfl rfl ?_
      refine J_getR (T := TX6) (f' := 6) (i' := 0) (pc1 := 24) eC0 rfl rfl inX6 0 (by decide) rfl rfl flX6_12 rfl dX6_setDelay_21 rfl ?_
      refine J_getR (T := TX0) (f' := 9) (i' := 0) (pc1 := 27) (eC6 hnc.1) rfl rfl inX0 1 (by decide) rfl rfl flX6_66 rfl dX6_setDelay_24 rfl ?_
      refine J_getI (T := TX3) (pc1 := 30) (eC9 hnc.1) rfl rfl inX3 5 (by decide) rfl flX6_70 rfl dX6_setDelay_27 rfl ?_
      obtain ⟨x5, e7, h⟩ := gLet_s h
      refine J_top (fun y6 e8 => ?_)
      have e8x : x5 = y6 := (e8.trans e7.symm).symm
      subst e8x
      refine J_istore_n (i := 2) (lv1 := [(2, .int x5), (0, .ref (ad 0 0)), (1, .int a1)]) (pc1 := 31) dX6_setDelay_30 rfl (by decide) rfl rfl ?_
      refine J_aload_n (i := 0) (q := 1) (pc1 := 32) dX6_setDelay_31 rfl rfl rfl ?_
      refine J_getR (T := TX6) (f' := 6) (i' := 0) (pc1 := 35) eC0 rfl rfl inX6 0 (by decide) rfl rfl flX6_12 rfl dX6_setDelay_32 rfl ?_
      refine J_getR (T := TX0) (f' := 9) (i' := 0) (pc1 := 38) (eC6 hnc.1) rfl rfl inX0 1 (by decide) rfl rfl flX6_66 rfl dX6_setDelay_35 rfl ?_
      refine J_iload_n (i := 1) (q := 2) (pc1 := 39) dX6_setDelay_38 rfl rfl rfl ?_
      refine J_putI (T := TX3) (pc1 := 42) (eC9 hnc.1) rfl rfl inX3 tyX3 tyX3_ok nmX3 5 (by decide) rfl (gHrl9 (by decide) (by decide)) flX6_70 rfl rfl rfl rfl dX6_setDelay_39 rfl ?_
      obtain ⟨μ9, e10, h⟩ := gLet_s h
      rw [← e10]
      clear e10
      refine J_iload_n (i := 2) (q := 0) (pc1 := 43) dX6_setDelay_42 rfl rfl rfl ?_
      cases h
    · rw [if_neg q4] at h
      refine J_sub [] (lv1 := []) rfl ?_
      exact kj1 ()  h
def mX6_setLink (nc : Nat) (a1 : Int32) (a2 : Int32) (a3 : Int32) (μ : gM) : Option (Sum (String × gM) ((Int32 × gM))) :=
  gBp (mX6_isNode nc a1 μ) fun r2 =>
  gJon (fun (u4 : Unit) =>
      some (.inl ("java/lang/IndexOutOfBoundsException", μ))) fun j3 =>
  if r2 = 0 then
    j3 () 
  else
    gBp (mX6_isNode nc a2 μ) fun r7 =>
    if r7 = 0 then
      j3 () 
    else
      if a1 = a2 then
        some (.inl ("java/lang/IllegalArgumentException", μ))
      else
        gBp (mX3_isCut nc 0 a1 a2 μ) fun r11 =>
        gBp (mX3_setCut nc 0 a1 a2 a3 μ) fun μ13 =>
        gChk (r11 = 0 ∨ r11 = 1) <|
        some (.inr (r11, μ13))
set_option maxHeartbeats 4000000 in
set_option maxRecDepth 100000 in
theorem kX6_setLink (l : Launch) (D : va_G) (tc : Nat → ClassId) (sa : Nat → Nat) (ad : Nat → Nat → Nat) (nc : Nat) (hnc : 0 < nc ∧ nc ≤ 2) (hI : gI (gE_C nc) ad) (a1 : Int32) (a2 : Int32) (a3 : Int32) (μ : gM) (r : Int32) (μ' : gM) (h : mX6_setLink nc a1 a2 a3 μ = some (.inr (r, μ'))) : gMet l yX6_setLink cX6_setLink 5 (some .boolean) ({ frames := 1, cells := 0, slots := 0, locals := 24 } : Room) D (gE_C nc) gkd_C tc ad (grh_C nc) sa [.ref (ad 0 0), .int a1, .int a2, .int a3] μ (some (.int r)) μ' := by
  refine gMet_of hI ⟨by decide +kernel, Nat.le_of_ble_eq_true rfl⟩ (fun p e s m args below meth c sz hr hlk => ?_)
  unfold mX6_setLink at h
  show JC p l e ({ frames := 1, cells := 0, slots := 0, locals := 24 } : Room) s m args below meth c cX6_setLink 5 RX6 D tc sa ad nc sz (some (.int r)) μ' μ 0 [(0, .ref (ad 0 0)), (1, .int a1), (2, .int a2), (3, .int a3)] []
  refine J_iload_n (i := 1) (q := 1) (pc1 := 1) dX6_setLink_0 rfl rfl rfl ?_
  obtain ⟨r2, hc1, h⟩ := gBp_s h
  refine J_callS (As := [.int a1]) (st := []) (st1 := [.int r2]) (pc1 := 4) (kX6_isNode l D tc sa ad nc hnc hI a1 μ r2 hc1) wcX6_isNode wlX6_75 rfl ⟨rfl, rfl, Nat.le_of_ble_eq_true rfl, Nat.le_of_ble_eq_true rfl⟩ ⟨Nat.zero_le _, Nat.zero_le _⟩ (Nat.le_of_ble_eq_true rfl) dX6_setLink_1 rfl rfl ?_
  obtain ⟨j3, ej3, h⟩ := gJon_s h
  have kj3 : ∀ (u4 : Unit), j3 u4 = some (.inr (r, μ')) → JC p l e ({ frames := 1, cells := 0, slots := 0, locals := 24 } : Room) s m args below meth c cX6_setLink 5 RX6 D tc sa ad nc sz (some (.int r)) μ' μ 14 [] [] := by
    intro u4 h
    rw [ej3] at h
    try dsimp only at h
    cases h
  clear ej3
  refine J_if_eq (tgt := 14) (pc1 := 7) dX6_setLink_4 (by decide) (fun q5 => ?_) rfl (fun q5 => ?_)
  · rw [if_pos q5] at h
    refine J_sub [] (lv1 := []) rfl ?_
    exact kj3 ()  h
  · rw [if_neg q5] at h
    refine J_iload_n (i := 2) (q := 2) (pc1 := 8) dX6_setLink_7 rfl rfl rfl ?_
    obtain ⟨r7, hc6, h⟩ := gBp_s h
    refine J_callS (As := [.int a2]) (st := []) (st1 := [.int r7]) (pc1 := 11) (kX6_isNode l D tc sa ad nc hnc hI a2 μ r7 hc6) wcX6_isNode wlX6_75 rfl ⟨rfl, rfl, Nat.le_of_ble_eq_true rfl, Nat.le_of_ble_eq_true rfl⟩ ⟨Nat.zero_le _, Nat.zero_le _⟩ (Nat.le_of_ble_eq_true rfl) dX6_setLink_8 rfl rfl ?_
    refine J_if_ne (tgt := 24) (pc1 := 14) dX6_setLink_11 (by decide) (fun q8 => ?_) rfl (fun q8 => ?_)
    · rw [if_neg q8] at h
      refine J_iload_n (i := 1) (q := 1) (pc1 := 25) dX6_setLink_24 rfl rfl rfl ?_
      refine J_iload_n (i := 2) (q := 2) (pc1 := 26) dX6_setLink_25 rfl rfl rfl ?_
      refine J_icmp_ne (tgt := 39) (pc1 := 29) dX6_setLink_26 (by decide) (fun q9 => ?_) rfl (fun q9 => ?_)
      · rw [if_neg q9] at h
        refine J_aload_n (i := 0) (q := 0) (pc1 := 40) dX6_setLink_39 rfl rfl rfl ?_
        refine J_getR (T := TX6) (f' := 6) (i' := 0) (pc1 := 43) eC0 rfl rfl inX6 0 (by decide) rfl rfl flX6_12 rfl dX6_setLink_40 rfl ?_
        refine J_getR (T := TX0) (f' := 9) (i' := 0) (pc1 := 46) (eC6 hnc.1) rfl rfl inX0 1 (by decide) rfl rfl flX6_66 rfl dX6_setLink_43 rfl ?_
        refine J_iload_n (i := 1) (q := 1) (pc1 := 47) dX6_setLink_46 rfl rfl rfl ?_
        refine J_iload_n (i := 2) (q := 2) (pc1 := 48) dX6_setLink_47 rfl rfl rfl ?_
        obtain ⟨r11, hc10, h⟩ := gBp_s h
        refine J_callV (As := [.int a1, .int a2]) (ad := ad) (f := 9) (i := 0) (st := []) (st1 := [.int r11]) (pc1 := 51) (kX3_isCut l D tc sa ad nc hnc hI 0 (hnc.1) a1 a2 μ r11 hc10) wcX3_isCut wlX6_85 (eC9 hnc.1) rfl rfl rfl ⟨rfl, rfl, Nat.le_of_ble_eq_true rfl, Nat.le_of_ble_eq_true rfl⟩ ⟨Nat.zero_le _, Nat.zero_le _⟩ (Nat.le_of_ble_eq_true rfl) dX6_setLink_48 rfl rfl ?_
        refine J_istore (i := 4) (lv1 := [(4, .int r11), (0, .ref (ad 0 0)), (1, .int a1), (2, .int a2), (3, .int a3)]) (pc1 := 53) dX6_setLink_51 (by decide) rfl rfl ?_
        refine J_aload_n (i := 0) (q := 1) (pc1 := 54) dX6_setLink_53 rfl rfl rfl ?_
        refine J_getR (T := TX6) (f' := 6) (i' := 0) (pc1 := 57) eC0 rfl rfl inX6 0 (by decide) rfl rfl flX6_12 rfl dX6_setLink_54 rfl ?_
        refine J_getR (T := TX0) (f' := 9) (i' := 0) (pc1 := 60) (eC6 hnc.1) rfl rfl inX0 1 (by decide) rfl rfl flX6_66 rfl dX6_setLink_57 rfl ?_
        refine J_iload_n (i := 1) (q := 2) (pc1 := 61) dX6_setLink_60 rfl rfl rfl ?_
        refine J_iload_n (i := 2) (q := 3) (pc1 := 62) dX6_setLink_61 rfl rfl rfl ?_
        refine J_iload_n (i := 3) (q := 4) (pc1 := 63) dX6_setLink_62 rfl rfl rfl ?_
        obtain ⟨μ13, hc12, h⟩ := gBp_s h
        refine J_callV (As := [.int a1, .int a2, .int a3]) (ad := ad) (f := 9) (i := 0) (st := []) (st1 := []) (pc1 := 66) (kX3_setCut l D tc sa ad nc hnc hI 0 (hnc.1) a1 a2 a3 μ μ13 hc12) wcX3_setCut wlX6_89 (eC9 hnc.1) rfl rfl rfl ⟨rfl, rfl, Nat.le_of_ble_eq_true rfl, Nat.le_of_ble_eq_true rfl⟩ ⟨Nat.zero_le _, Nat.zero_le _⟩ (Nat.le_of_ble_eq_true rfl) dX6_setLink_63 rfl rfl ?_
        refine J_iload (i := 4) (q := 0) (pc1 := 68) dX6_setLink_66 rfl rfl ?_
        obtain ⟨h14, h⟩ := gChk_s h
        cases h
        exact J_zret h14 hr hlk dX6_setLink_68
      · rw [if_pos q9] at h
        cases h
    · rw [if_pos q8] at h
      refine J_sub [] (lv1 := []) rfl ?_
      exact kj3 ()  h
set_option maxHeartbeats 4000000 in
set_option maxRecDepth 100000 in
theorem tX6_setLink (l : Launch) (D : va_G) (tc : Nat → ClassId) (sa : Nat → Nat) (ad : Nat → Nat → Nat) (nc : Nat) (hnc : 0 < nc ∧ nc ≤ 2) (hI : gI (gE_C nc) ad) (a1 : Int32) (a2 : Int32) (a3 : Int32) (μ : gM) (hlz : l.stackTraces = false) (E0 : String) (μ' : gM) (h : mX6_setLink nc a1 a2 a3 μ = some (.inl (E0, μ'))) : gMetX l yX6_setLink cX6_setLink 5 (some .boolean) ({ frames := 6, cells := 1, slots := 6, locals := 100 } : Room) D (gE_C nc) gkd_C tc ad (grh_C nc) sa [.ref (ad 0 0), .int a1, .int a2, .int a3] μ E0 μ' := by
  refine gMetX_of hI ⟨by decide +kernel, Nat.le_of_ble_eq_true rfl⟩ (fun p e s m args below meth c sz hr hlk hT => ?_)
  unfold mX6_setLink at h
  show JCX p l e ({ frames := 6, cells := 1, slots := 6, locals := 100 } : Room) s m args below meth c cX6_setLink 5 RX6 D tc sa ad nc sz E0 μ' μ 0 [(0, .ref (ad 0 0)), (1, .int a1), (2, .int a2), (3, .int a3)] []
  refine J_iload_n (i := 1) (q := 1) (pc1 := 1) dX6_setLink_0 rfl rfl rfl ?_
  obtain ⟨r2, hc1, h⟩ := gBp_s h
  refine J_callS (As := [.int a1]) (st := []) (st1 := [.int r2]) (pc1 := 4) (kX6_isNode l D tc sa ad nc hnc hI a1 μ r2 hc1) wcX6_isNode wlX6_75 rfl ⟨rfl, rfl, Nat.le_of_ble_eq_true rfl, Nat.le_of_ble_eq_true rfl⟩ ⟨Nat.zero_le _, Nat.zero_le _⟩ (Nat.le_of_ble_eq_true rfl) dX6_setLink_1 rfl rfl ?_
  obtain ⟨j3, ej3, h⟩ := gJon_s h
  have kj3 : ∀ (u4 : Unit), j3 u4 = some (.inl (E0, μ')) → JCX p l e ({ frames := 6, cells := 1, slots := 6, locals := 100 } : Room) s m args below meth c cX6_setLink 5 RX6 D tc sa ad nc sz E0 μ' μ 14 [] [] := by
    intro u4 h
    rw [ej3] at h
    try dsimp only at h
    cases h
    exact J_throwS (i := 3) (text := jsT 3) hlz hT xf_IndexOutOfBoundsException clX6_78 ini_IndexOutOfBoundsException ⟨by decide, rfl, rfl, rfl⟩ (xh_IndexOutOfBoundsException clX6_78) hlk dX6_setLink_14 dX6_setLink_17 dX6_setLink_18 dX6_setLink_20 dX6_setLink_23 ⟨by decide, by decide, by decide, by decide⟩
  clear ej3
  refine J_if_eq (tgt := 14) (pc1 := 7) dX6_setLink_4 (by decide) (fun q5 => ?_) rfl (fun q5 => ?_)
  · rw [if_pos q5] at h
    refine J_sub [] (lv1 := []) rfl ?_
    exact kj3 ()  h
  · rw [if_neg q5] at h
    refine J_iload_n (i := 2) (q := 2) (pc1 := 8) dX6_setLink_7 rfl rfl rfl ?_
    obtain ⟨r7, hc6, h⟩ := gBp_s h
    refine J_callS (As := [.int a2]) (st := []) (st1 := [.int r7]) (pc1 := 11) (kX6_isNode l D tc sa ad nc hnc hI a2 μ r7 hc6) wcX6_isNode wlX6_75 rfl ⟨rfl, rfl, Nat.le_of_ble_eq_true rfl, Nat.le_of_ble_eq_true rfl⟩ ⟨Nat.zero_le _, Nat.zero_le _⟩ (Nat.le_of_ble_eq_true rfl) dX6_setLink_8 rfl rfl ?_
    refine J_if_ne (tgt := 24) (pc1 := 14) dX6_setLink_11 (by decide) (fun q8 => ?_) rfl (fun q8 => ?_)
    · rw [if_neg q8] at h
      refine J_iload_n (i := 1) (q := 1) (pc1 := 25) dX6_setLink_24 rfl rfl rfl ?_
      refine J_iload_n (i := 2) (q := 2) (pc1 := 26) dX6_setLink_25 rfl rfl rfl ?_
      refine J_icmp_ne (tgt := 39) (pc1 := 29) dX6_setLink_26 (by decide) (fun q9 => ?_) rfl (fun q9 => ?_)
      · rw [if_neg q9] at h
        refine J_aload_n (i := 0) (q := 0) (pc1 := 40) dX6_setLink_39 rfl rfl rfl ?_
        refine J_getR (T := TX6) (f' := 6) (i' := 0) (pc1 := 43) eC0 rfl rfl inX6 0 (by decide) rfl rfl flX6_12 rfl dX6_setLink_40 rfl ?_
        refine J_getR (T := TX0) (f' := 9) (i' := 0) (pc1 := 46) (eC6 hnc.1) rfl rfl inX0 1 (by decide) rfl rfl flX6_66 rfl dX6_setLink_43 rfl ?_
        refine J_iload_n (i := 1) (q := 1) (pc1 := 47) dX6_setLink_46 rfl rfl rfl ?_
        refine J_iload_n (i := 2) (q := 2) (pc1 := 48) dX6_setLink_47 rfl rfl rfl ?_
        obtain ⟨r11, hc10, h⟩ := gBp_s h
        refine J_callV (As := [.int a1, .int a2]) (ad := ad) (f := 9) (i := 0) (st := []) (st1 := [.int r11]) (pc1 := 51) (kX3_isCut l D tc sa ad nc hnc hI 0 (hnc.1) a1 a2 μ r11 hc10) wcX3_isCut wlX6_85 (eC9 hnc.1) rfl rfl rfl ⟨rfl, rfl, Nat.le_of_ble_eq_true rfl, Nat.le_of_ble_eq_true rfl⟩ ⟨Nat.zero_le _, Nat.zero_le _⟩ (Nat.le_of_ble_eq_true rfl) dX6_setLink_48 rfl rfl ?_
        refine J_istore (i := 4) (lv1 := [(4, .int r11), (0, .ref (ad 0 0)), (1, .int a1), (2, .int a2), (3, .int a3)]) (pc1 := 53) dX6_setLink_51 (by decide) rfl rfl ?_
        refine J_aload_n (i := 0) (q := 1) (pc1 := 54) dX6_setLink_53 rfl rfl rfl ?_
        refine J_getR (T := TX6) (f' := 6) (i' := 0) (pc1 := 57) eC0 rfl rfl inX6 0 (by decide) rfl rfl flX6_12 rfl dX6_setLink_54 rfl ?_
        refine J_getR (T := TX0) (f' := 9) (i' := 0) (pc1 := 60) (eC6 hnc.1) rfl rfl inX0 1 (by decide) rfl rfl flX6_66 rfl dX6_setLink_57 rfl ?_
        refine J_iload_n (i := 1) (q := 2) (pc1 := 61) dX6_setLink_60 rfl rfl rfl ?_
        refine J_iload_n (i := 2) (q := 3) (pc1 := 62) dX6_setLink_61 rfl rfl rfl ?_
        refine J_iload_n (i := 3) (q := 4) (pc1 := 63) dX6_setLink_62 rfl rfl rfl ?_
        obtain ⟨μ13, hc12, h⟩ := gBp_s h
        refine J_callV (As := [.int a1, .int a2, .int a3]) (ad := ad) (f := 9) (i := 0) (st := []) (st1 := []) (pc1 := 66) (kX3_setCut l D tc sa ad nc hnc hI 0 (hnc.1) a1 a2 a3 μ μ13 hc12) wcX3_setCut wlX6_89 (eC9 hnc.1) rfl rfl rfl ⟨rfl, rfl, Nat.le_of_ble_eq_true rfl, Nat.le_of_ble_eq_true rfl⟩ ⟨Nat.zero_le _, Nat.zero_le _⟩ (Nat.le_of_ble_eq_true rfl) dX6_setLink_63 rfl rfl ?_
        refine J_iload (i := 4) (q := 0) (pc1 := 68) dX6_setLink_66 rfl rfl ?_
        obtain ⟨h14, h⟩ := gChk_s h
        cases h
      · rw [if_pos q9] at h
        cases h
        exact J_throwS (i := 4) (text := jsT 4) hlz hT xf_IllegalArgumentException clX6_38 ini_IllegalArgumentException ⟨by decide, rfl, rfl, rfl⟩ (xh_IllegalArgumentException clX6_38) hlk dX6_setLink_29 dX6_setLink_32 dX6_setLink_33 dX6_setLink_35 dX6_setLink_38 ⟨by decide, by decide, by decide, by decide⟩
    · rw [if_pos q8] at h
      refine J_sub [] (lv1 := []) rfl ?_
      exact kj3 ()  h
def mX6_crash (nc : Nat) (a1 : Int32) (μ : gM) : Option (Sum (String × gM) ((Int32 × gM))) :=
  gBx (mX6_replicaAt nc a1 μ) fun r2 =>
  gChk (r2 < 5 * nc) <|
  if (μ 11 r2 5) = 0 then
    some (.inl ("java/lang/IllegalStateException", μ))
  else
    gBp (mX4_goDown nc r2 μ) fun μ6 =>
    some (.inr (μ6 11 r2 7, μ6))
set_option maxHeartbeats 4000000 in
set_option maxRecDepth 100000 in
theorem kX6_crash (l : Launch) (D : va_G) (tc : Nat → ClassId) (sa : Nat → Nat) (ad : Nat → Nat → Nat) (nc : Nat) (hnc : 0 < nc ∧ nc ≤ 2) (hI : gI (gE_C nc) ad) (a1 : Int32) (μ : gM) (r : Int32) (μ' : gM) (h : mX6_crash nc a1 μ = some (.inr (r, μ'))) : gMet l yX6_crash cX6_crash 3 (some .int) ({ frames := 1, cells := 0, slots := 0, locals := 21 } : Room) D (gE_C nc) gkd_C tc ad (grh_C nc) sa [.ref (ad 0 0), .int a1] μ (some (.int r)) μ' := by
  refine gMet_of hI ⟨by decide +kernel, Nat.le_of_ble_eq_true rfl⟩ (fun p e s m args below meth c sz hr hlk => ?_)
  unfold mX6_crash at h
  show JC p l e ({ frames := 1, cells := 0, slots := 0, locals := 21 } : Room) s m args below meth c cX6_crash 3 RX6 D tc sa ad nc sz (some (.int r)) μ' μ 0 [(0, .ref (ad 0 0)), (1, .int a1)] []
  refine J_aload_n (i := 0) (q := 0) (pc1 := 1) dX6_crash_0 rfl rfl rfl ?_
  refine J_iload_n (i := 1) (q := 1) (pc1 := 2) dX6_crash_1 rfl rfl rfl ?_
  obtain ⟨r2, hc1, h⟩ := gBx_r h
  obtain ⟨h3, h⟩ := gChk_s h
  refine J_callV (As := [.int a1]) (ad := ad) (f := 0) (i := 0) (st := []) (st1 := [.ref (ad 11 r2)]) (pc1 := 5) (kX6_replicaAt l D tc sa ad nc hnc hI a1 μ r2 hc1) wcX6_replicaAt wlX6_93 eC0 rfl rfl rfl ⟨rfl, rfl, Nat.le_of_ble_eq_true rfl, Nat.le_of_ble_eq_true rfl⟩ ⟨Nat.zero_le _, Nat.zero_le _⟩ (Nat.le_of_ble_eq_true rfl) dX6_crash_2 rfl rfl ?_
  refine J_astore_n (i := 2) (lv1 := [(2, .ref (ad 11 r2)), (0, .ref (ad 0 0)), (1, .int a1)]) (pc1 := 6) dX6_crash_5 rfl (by decide) rfl rfl ?_
  refine J_aload_n (i := 2) (q := 0) (pc1 := 7) dX6_crash_6 rfl rfl rfl ?_
  refine J_getI (T := TX4) (pc1 := 10) (eC11 h3) rfl rfl inX4 5 (by decide) rfl flX6_97 rfl dX6_crash_7 rfl ?_
  refine J_if_ne (tgt := 23) (pc1 := 13) dX6_crash_10 (by decide) (fun q4 => ?_) rfl (fun q4 => ?_)
  · rw [if_neg q4] at h
    refine J_aload_n (i := 2) (q := 0) (pc1 := 24) dX6_crash_23 rfl rfl rfl ?_
    obtain ⟨μ6, hc5, h⟩ := gBp_s h
    refine J_callV (As := []) (ad := ad) (f := 11) (i := r2) (st := []) (st1 := []) (pc1 := 27) (kX4_goDown l D tc sa ad nc hnc hI r2 h3 μ μ6 hc5) wcX4_goDown wlX6_108 (eC11 h3) rfl rfl rfl ⟨rfl, rfl, Nat.le_of_ble_eq_true rfl, Nat.le_of_ble_eq_true rfl⟩ ⟨Nat.zero_le _, Nat.zero_le _⟩ (Nat.le_of_ble_eq_true rfl) dX6_crash_24 rfl rfl ?_
    refine J_aload_n (i := 2) (q := 0) (pc1 := 28) dX6_crash_27 rfl rfl rfl ?_
    refine J_getI (T := TX4) (pc1 := 31) (eC11 h3) rfl rfl inX4 7 (by decide) rfl flX6_111 rfl dX6_crash_28 rfl ?_
    cases h
    exact J_iret hr hlk dX6_crash_31
  · rw [if_pos q4] at h
    cases h
set_option maxHeartbeats 4000000 in
set_option maxRecDepth 100000 in
theorem tX6_crash (l : Launch) (D : va_G) (tc : Nat → ClassId) (sa : Nat → Nat) (ad : Nat → Nat → Nat) (nc : Nat) (hnc : 0 < nc ∧ nc ≤ 2) (hI : gI (gE_C nc) ad) (a1 : Int32) (μ : gM) (hlz : l.stackTraces = false) (E0 : String) (μ' : gM) (h : mX6_crash nc a1 μ = some (.inl (E0, μ'))) : gMetX l yX6_crash cX6_crash 3 (some .int) ({ frames := 7, cells := 1, slots := 6, locals := 121 } : Room) D (gE_C nc) gkd_C tc ad (grh_C nc) sa [.ref (ad 0 0), .int a1] μ E0 μ' := by
  refine gMetX_of hI ⟨by decide +kernel, Nat.le_of_ble_eq_true rfl⟩ (fun p e s m args below meth c sz hr hlk hT => ?_)
  unfold mX6_crash at h
  show JCX p l e ({ frames := 7, cells := 1, slots := 6, locals := 121 } : Room) s m args below meth c cX6_crash 3 RX6 D tc sa ad nc sz E0 μ' μ 0 [(0, .ref (ad 0 0)), (1, .int a1)] []
  refine J_aload_n (i := 0) (q := 0) (pc1 := 1) dX6_crash_0 rfl rfl rfl ?_
  refine J_iload_n (i := 1) (q := 1) (pc1 := 2) dX6_crash_1 rfl rfl rfl ?_
  rcases gBx_l h with hc1 | ⟨r2, hc1, h⟩
  · exact J_callX (As := [.int a1]) (ad := ad) (f := 0) (i := 0) (st := []) hT (tX6_replicaAt l D tc sa ad nc hnc hI a1 μ hlz E0 μ' hc1) wcX6_replicaAt wlX6_93 eC0 rfl rfl rfl ⟨rfl, rfl, Nat.le_of_ble_eq_true rfl, Nat.le_of_ble_eq_true rfl⟩ ⟨by decide, by decide⟩ (Nat.le_of_ble_eq_true rfl) hlk dX6_crash_2
  obtain ⟨h3, h⟩ := gChk_s h
  refine J_callV (As := [.int a1]) (ad := ad) (f := 0) (i := 0) (st := []) (st1 := [.ref (ad 11 r2)]) (pc1 := 5) (kX6_replicaAt l D tc sa ad nc hnc hI a1 μ r2 hc1) wcX6_replicaAt wlX6_93 eC0 rfl rfl rfl ⟨rfl, rfl, Nat.le_of_ble_eq_true rfl, Nat.le_of_ble_eq_true rfl⟩ ⟨Nat.zero_le _, Nat.zero_le _⟩ (Nat.le_of_ble_eq_true rfl) dX6_crash_2 rfl rfl ?_
  refine J_astore_n (i := 2) (lv1 := [(2, .ref (ad 11 r2)), (0, .ref (ad 0 0)), (1, .int a1)]) (pc1 := 6) dX6_crash_5 rfl (by decide) rfl rfl ?_
  refine J_aload_n (i := 2) (q := 0) (pc1 := 7) dX6_crash_6 rfl rfl rfl ?_
  refine J_getI (T := TX4) (pc1 := 10) (eC11 h3) rfl rfl inX4 5 (by decide) rfl flX6_97 rfl dX6_crash_7 rfl ?_
  refine J_if_ne (tgt := 23) (pc1 := 13) dX6_crash_10 (by decide) (fun q4 => ?_) rfl (fun q4 => ?_)
  · rw [if_neg q4] at h
    refine J_aload_n (i := 2) (q := 0) (pc1 := 24) dX6_crash_23 rfl rfl rfl ?_
    obtain ⟨μ6, hc5, h⟩ := gBp_s h
    refine J_callV (As := []) (ad := ad) (f := 11) (i := r2) (st := []) (st1 := []) (pc1 := 27) (kX4_goDown l D tc sa ad nc hnc hI r2 h3 μ μ6 hc5) wcX4_goDown wlX6_108 (eC11 h3) rfl rfl rfl ⟨rfl, rfl, Nat.le_of_ble_eq_true rfl, Nat.le_of_ble_eq_true rfl⟩ ⟨Nat.zero_le _, Nat.zero_le _⟩ (Nat.le_of_ble_eq_true rfl) dX6_crash_24 rfl rfl ?_
    refine J_aload_n (i := 2) (q := 0) (pc1 := 28) dX6_crash_27 rfl rfl rfl ?_
    refine J_getI (T := TX4) (pc1 := 31) (eC11 h3) rfl rfl inX4 7 (by decide) rfl flX6_111 rfl dX6_crash_28 rfl ?_
    cases h
  · rw [if_pos q4] at h
    cases h
    exact J_throwS (i := 5) (text := jsT 5) hlz hT xf_IllegalStateException clX6_103 ini_IllegalStateException ⟨by decide, rfl, rfl, rfl⟩ (xh_IllegalStateException clX6_103) hlk dX6_crash_13 dX6_crash_16 dX6_crash_17 dX6_crash_19 dX6_crash_22 ⟨by decide, by decide, by decide, by decide⟩
def mX6_restart (nc : Nat) (a1 : Int32) (μ : gM) : Option (Sum (String × gM) ((Int32 × gM))) :=
  gBx (mX6_replicaAt nc a1 μ) fun r2 =>
  gChk (r2 < 5 * nc) <|
  if (μ 11 r2 5) = 0 then
    gBp (mX0_revive nc 0 r2 μ) fun μ6 =>
    gBp (mX1_lastIndex nc r2 μ6) fun r8 =>
    some (.inr (r8, μ6))
  else
    some (.inl ("java/lang/IllegalStateException", μ))
set_option maxHeartbeats 4000000 in
set_option maxRecDepth 100000 in
theorem kX6_restart (l : Launch) (D : va_G) (tc : Nat → ClassId) (sa : Nat → Nat) (ad : Nat → Nat → Nat) (nc : Nat) (hnc : 0 < nc ∧ nc ≤ 2) (hI : gI (gE_C nc) ad) (a1 : Int32) (μ : gM) (r : Int32) (μ' : gM) (h : mX6_restart nc a1 μ = some (.inr (r, μ'))) : gMet l yX6_restart cX6_restart 3 (some .int) ({ frames := 2, cells := 0, slots := 0, locals := 43 } : Room) D (gE_C nc) gkd_C tc ad (grh_C nc) sa [.ref (ad 0 0), .int a1] μ (some (.int r)) μ' := by
  refine gMet_of hI ⟨by decide +kernel, Nat.le_of_ble_eq_true rfl⟩ (fun p e s m args below meth c sz hr hlk => ?_)
  unfold mX6_restart at h
  show JC p l e ({ frames := 2, cells := 0, slots := 0, locals := 43 } : Room) s m args below meth c cX6_restart 3 RX6 D tc sa ad nc sz (some (.int r)) μ' μ 0 [(0, .ref (ad 0 0)), (1, .int a1)] []
  refine J_aload_n (i := 0) (q := 0) (pc1 := 1) dX6_restart_0 rfl rfl rfl ?_
  refine J_iload_n (i := 1) (q := 1) (pc1 := 2) dX6_restart_1 rfl rfl rfl ?_
  obtain ⟨r2, hc1, h⟩ := gBx_r h
  obtain ⟨h3, h⟩ := gChk_s h
  refine J_callV (As := [.int a1]) (ad := ad) (f := 0) (i := 0) (st := []) (st1 := [.ref (ad 11 r2)]) (pc1 := 5) (kX6_replicaAt l D tc sa ad nc hnc hI a1 μ r2 hc1) wcX6_replicaAt wlX6_93 eC0 rfl rfl rfl ⟨rfl, rfl, Nat.le_of_ble_eq_true rfl, Nat.le_of_ble_eq_true rfl⟩ ⟨Nat.zero_le _, Nat.zero_le _⟩ (Nat.le_of_ble_eq_true rfl) dX6_restart_2 rfl rfl ?_
  refine J_astore_n (i := 2) (lv1 := [(2, .ref (ad 11 r2)), (0, .ref (ad 0 0)), (1, .int a1)]) (pc1 := 6) dX6_restart_5 rfl (by decide) rfl rfl ?_
  refine J_aload_n (i := 2) (q := 0) (pc1 := 7) dX6_restart_6 rfl rfl rfl ?_
  refine J_getI (T := TX4) (pc1 := 10) (eC11 h3) rfl rfl inX4 5 (by decide) rfl flX6_97 rfl dX6_restart_7 rfl ?_
  refine J_if_eq (tgt := 23) (pc1 := 13) dX6_restart_10 (by decide) (fun q4 => ?_) rfl (fun q4 => ?_)
  · rw [if_pos q4] at h
    refine J_aload_n (i := 0) (q := 1) (pc1 := 24) dX6_restart_23 rfl rfl rfl ?_
    refine J_getR (T := TX6) (f' := 6) (i' := 0) (pc1 := 27) eC0 rfl rfl inX6 0 (by decide) rfl rfl flX6_12 rfl dX6_restart_24 rfl ?_
    refine J_aload_n (i := 2) (q := 0) (pc1 := 28) dX6_restart_27 rfl rfl rfl ?_
    obtain ⟨μ6, hc5, h⟩ := gBp_s h
    refine J_callV (As := [.ref (ad 11 r2)]) (ad := ad) (f := 6) (i := 0) (st := []) (st1 := []) (pc1 := 31) (kX0_revive l D tc sa ad nc hnc hI 0 (hnc.1) r2 h3 μ μ6 hc5) wcX0_revive wlX6_116 (eC6 hnc.1) rfl rfl rfl ⟨rfl, rfl, Nat.le_of_ble_eq_true rfl, Nat.le_of_ble_eq_true rfl⟩ ⟨Nat.zero_le _, Nat.zero_le _⟩ (Nat.le_of_ble_eq_true rfl) dX6_restart_28 rfl rfl ?_
    refine J_aload_n (i := 2) (q := 0) (pc1 := 32) dX6_restart_31 rfl rfl rfl ?_
    refine J_getR (T := TX4) (f' := 12) (i' := r2) (pc1 := 35) (eC11 h3) rfl rfl inX4 1 (by decide) rfl rfl flX6_120 rfl dX6_restart_32 rfl ?_
    obtain ⟨r8, hc7, h⟩ := gBp_s h
    refine J_callV (As := []) (ad := ad) (f := 12) (i := r2) (st := []) (st1 := [.int r8]) (pc1 := 38) (kX1_lastIndex l D tc sa ad nc hnc hI r2 h3 μ6 r8 hc7) wcX1_lastIndex wlX6_124 (eC12 h3) rfl rfl rfl ⟨rfl, rfl, Nat.le_of_ble_eq_true rfl, Nat.le_of_ble_eq_true rfl⟩ ⟨Nat.zero_le _, Nat.zero_le _⟩ (Nat.le_of_ble_eq_true rfl) dX6_restart_35 rfl rfl ?_
    cases h
    exact J_iret hr hlk dX6_restart_38
  · rw [if_neg q4] at h
    cases h
set_option maxHeartbeats 4000000 in
set_option maxRecDepth 100000 in
theorem tX6_restart (l : Launch) (D : va_G) (tc : Nat → ClassId) (sa : Nat → Nat) (ad : Nat → Nat → Nat) (nc : Nat) (hnc : 0 < nc ∧ nc ≤ 2) (hI : gI (gE_C nc) ad) (a1 : Int32) (μ : gM) (hlz : l.stackTraces = false) (E0 : String) (μ' : gM) (h : mX6_restart nc a1 μ = some (.inl (E0, μ'))) : gMetX l yX6_restart cX6_restart 3 (some .int) ({ frames := 7, cells := 1, slots := 6, locals := 121 } : Room) D (gE_C nc) gkd_C tc ad (grh_C nc) sa [.ref (ad 0 0), .int a1] μ E0 μ' := by
  refine gMetX_of hI ⟨by decide +kernel, Nat.le_of_ble_eq_true rfl⟩ (fun p e s m args below meth c sz hr hlk hT => ?_)
  unfold mX6_restart at h
  show JCX p l e ({ frames := 7, cells := 1, slots := 6, locals := 121 } : Room) s m args below meth c cX6_restart 3 RX6 D tc sa ad nc sz E0 μ' μ 0 [(0, .ref (ad 0 0)), (1, .int a1)] []
  refine J_aload_n (i := 0) (q := 0) (pc1 := 1) dX6_restart_0 rfl rfl rfl ?_
  refine J_iload_n (i := 1) (q := 1) (pc1 := 2) dX6_restart_1 rfl rfl rfl ?_
  rcases gBx_l h with hc1 | ⟨r2, hc1, h⟩
  · exact J_callX (As := [.int a1]) (ad := ad) (f := 0) (i := 0) (st := []) hT (tX6_replicaAt l D tc sa ad nc hnc hI a1 μ hlz E0 μ' hc1) wcX6_replicaAt wlX6_93 eC0 rfl rfl rfl ⟨rfl, rfl, Nat.le_of_ble_eq_true rfl, Nat.le_of_ble_eq_true rfl⟩ ⟨by decide, by decide⟩ (Nat.le_of_ble_eq_true rfl) hlk dX6_restart_2
  obtain ⟨h3, h⟩ := gChk_s h
  refine J_callV (As := [.int a1]) (ad := ad) (f := 0) (i := 0) (st := []) (st1 := [.ref (ad 11 r2)]) (pc1 := 5) (kX6_replicaAt l D tc sa ad nc hnc hI a1 μ r2 hc1) wcX6_replicaAt wlX6_93 eC0 rfl rfl rfl ⟨rfl, rfl, Nat.le_of_ble_eq_true rfl, Nat.le_of_ble_eq_true rfl⟩ ⟨Nat.zero_le _, Nat.zero_le _⟩ (Nat.le_of_ble_eq_true rfl) dX6_restart_2 rfl rfl ?_
  refine J_astore_n (i := 2) (lv1 := [(2, .ref (ad 11 r2)), (0, .ref (ad 0 0)), (1, .int a1)]) (pc1 := 6) dX6_restart_5 rfl (by decide) rfl rfl ?_
  refine J_aload_n (i := 2) (q := 0) (pc1 := 7) dX6_restart_6 rfl rfl rfl ?_
  refine J_getI (T := TX4) (pc1 := 10) (eC11 h3) rfl rfl inX4 5 (by decide) rfl flX6_97 rfl dX6_restart_7 rfl ?_
  refine J_if_eq (tgt := 23) (pc1 := 13) dX6_restart_10 (by decide) (fun q4 => ?_) rfl (fun q4 => ?_)
  · rw [if_pos q4] at h
    refine J_aload_n (i := 0) (q := 1) (pc1 := 24) dX6_restart_23 rfl rfl rfl ?_
    refine J_getR (T := TX6) (f' := 6) (i' := 0) (pc1 := 27) eC0 rfl rfl inX6 0 (by decide) rfl rfl flX6_12 rfl dX6_restart_24 rfl ?_
    refine J_aload_n (i := 2) (q := 0) (pc1 := 28) dX6_restart_27 rfl rfl rfl ?_
    obtain ⟨μ6, hc5, h⟩ := gBp_s h
    refine J_callV (As := [.ref (ad 11 r2)]) (ad := ad) (f := 6) (i := 0) (st := []) (st1 := []) (pc1 := 31) (kX0_revive l D tc sa ad nc hnc hI 0 (hnc.1) r2 h3 μ μ6 hc5) wcX0_revive wlX6_116 (eC6 hnc.1) rfl rfl rfl ⟨rfl, rfl, Nat.le_of_ble_eq_true rfl, Nat.le_of_ble_eq_true rfl⟩ ⟨Nat.zero_le _, Nat.zero_le _⟩ (Nat.le_of_ble_eq_true rfl) dX6_restart_28 rfl rfl ?_
    refine J_aload_n (i := 2) (q := 0) (pc1 := 32) dX6_restart_31 rfl rfl rfl ?_
    refine J_getR (T := TX4) (f' := 12) (i' := r2) (pc1 := 35) (eC11 h3) rfl rfl inX4 1 (by decide) rfl rfl flX6_120 rfl dX6_restart_32 rfl ?_
    obtain ⟨r8, hc7, h⟩ := gBp_s h
    refine J_callV (As := []) (ad := ad) (f := 12) (i := r2) (st := []) (st1 := [.int r8]) (pc1 := 38) (kX1_lastIndex l D tc sa ad nc hnc hI r2 h3 μ6 r8 hc7) wcX1_lastIndex wlX6_124 (eC12 h3) rfl rfl rfl ⟨rfl, rfl, Nat.le_of_ble_eq_true rfl, Nat.le_of_ble_eq_true rfl⟩ ⟨Nat.zero_le _, Nat.zero_le _⟩ (Nat.le_of_ble_eq_true rfl) dX6_restart_35 rfl rfl ?_
    cases h
  · rw [if_neg q4] at h
    cases h
    exact J_throwS (i := 6) (text := jsT 6) hlz hT xf_IllegalStateException clX6_103 ini_IllegalStateException ⟨by decide, rfl, rfl, rfl⟩ (xh_IllegalStateException clX6_103) hlk dX6_restart_13 dX6_restart_16 dX6_restart_17 dX6_restart_19 dX6_restart_22 ⟨by decide, by decide, by decide, by decide⟩
def mX6_submit (nc : Nat) (a1 : Int32) (a2 : Int32) (μ : gM) : Option (Sum (String × gM) ((Int32 × gM))) :=
  gBx (mX6_replicaAt nc a1 μ) fun r2 =>
  gChk (r2 < 5 * nc) <|
  if (μ 11 r2 6) = 2 then
    gBp (mX1_isFull nc r2 μ) fun r6 =>
    if r6 = 0 then
      gBd (mX0_add nc 0 r2 0 a2 μ) fun r9 μ10 =>
      some (.inr (r9, μ10))
    else
      some (.inl ("java/lang/UnsupportedOperationException", μ))
  else
    some (.inl ("java/lang/IllegalStateException", μ))
set_option maxHeartbeats 4000000 in
set_option maxRecDepth 100000 in
theorem kX6_submit (l : Launch) (D : va_G) (tc : Nat → ClassId) (sa : Nat → Nat) (ad : Nat → Nat → Nat) (nc : Nat) (hnc : 0 < nc ∧ nc ≤ 2) (hI : gI (gE_C nc) ad) (a1 : Int32) (a2 : Int32) (μ : gM) (r : Int32) (μ' : gM) (h : mX6_submit nc a1 a2 μ = some (.inr (r, μ'))) : gMet l yX6_submit cX6_submit 4 (some .int) ({ frames := 5, cells := 0, slots := 0, locals := 112 } : Room) D (gE_C nc) gkd_C tc ad (grh_C nc) sa [.ref (ad 0 0), .int a1, .int a2] μ (some (.int r)) μ' := by
  refine gMet_of hI ⟨by decide +kernel, Nat.le_of_ble_eq_true rfl⟩ (fun p e s m args below meth c sz hr hlk => ?_)
  unfold mX6_submit at h
  show JC p l e ({ frames := 5, cells := 0, slots := 0, locals := 112 } : Room) s m args below meth c cX6_submit 4 RX6 D tc sa ad nc sz (some (.int r)) μ' μ 0 [(0, .ref (ad 0 0)), (1, .int a1), (2, .int a2)] []
  refine J_aload_n (i := 0) (q := 0) (pc1 := 1) dX6_submit_0 rfl rfl rfl ?_
  refine J_iload_n (i := 1) (q := 1) (pc1 := 2) dX6_submit_1 rfl rfl rfl ?_
  obtain ⟨r2, hc1, h⟩ := gBx_r h
  obtain ⟨h3, h⟩ := gChk_s h
  refine J_callV (As := [.int a1]) (ad := ad) (f := 0) (i := 0) (st := []) (st1 := [.ref (ad 11 r2)]) (pc1 := 5) (kX6_replicaAt l D tc sa ad nc hnc hI a1 μ r2 hc1) wcX6_replicaAt wlX6_93 eC0 rfl rfl rfl ⟨rfl, rfl, Nat.le_of_ble_eq_true rfl, Nat.le_of_ble_eq_true rfl⟩ ⟨Nat.zero_le _, Nat.zero_le _⟩ (Nat.le_of_ble_eq_true rfl) dX6_submit_2 rfl rfl ?_
  refine J_astore_n (i := 3) (lv1 := [(3, .ref (ad 11 r2)), (0, .ref (ad 0 0)), (1, .int a1), (2, .int a2)]) (pc1 := 6) dX6_submit_5 rfl (by decide) rfl rfl ?_
  refine J_aload_n (i := 3) (q := 0) (pc1 := 7) dX6_submit_6 rfl rfl rfl ?_
  refine J_getI (T := TX4) (pc1 := 10) (eC11 h3) rfl rfl inX4 6 (by decide) rfl flX6_130 rfl dX6_submit_7 rfl ?_
  refine J_iconst (v := 2) (pc1 := 11) dX6_submit_10 (by decide) rfl ?_
  refine J_icmp_eq (tgt := 24) (pc1 := 14) dX6_submit_11 (by decide) (fun q4 => ?_) rfl (fun q4 => ?_)
  · rw [if_pos q4] at h
    refine J_aload_n (i := 3) (q := 0) (pc1 := 25) dX6_submit_24 rfl rfl rfl ?_
    refine J_getR (T := TX4) (f' := 12) (i' := r2) (pc1 := 28) (eC11 h3) rfl rfl inX4 1 (by decide) rfl rfl flX6_120 rfl dX6_submit_25 rfl ?_
    obtain ⟨r6, hc5, h⟩ := gBp_s h
    refine J_callV (As := []) (ad := ad) (f := 12) (i := r2) (st := []) (st1 := [.int r6]) (pc1 := 31) (kX1_isFull l D tc sa ad nc hnc hI r2 h3 μ r6 hc5) wcX1_isFull wlX6_135 (eC12 h3) rfl rfl rfl ⟨rfl, rfl, Nat.le_of_ble_eq_true rfl, Nat.le_of_ble_eq_true rfl⟩ ⟨Nat.zero_le _, Nat.zero_le _⟩ (Nat.le_of_ble_eq_true rfl) dX6_submit_28 rfl rfl ?_
    refine J_if_eq (tgt := 44) (pc1 := 34) dX6_submit_31 (by decide) (fun q7 => ?_) rfl (fun q7 => ?_)
    · rw [if_pos q7] at h
      refine J_aload_n (i := 0) (q := 1) (pc1 := 45) dX6_submit_44 rfl rfl rfl ?_
      refine J_getR (T := TX6) (f' := 6) (i' := 0) (pc1 := 48) eC0 rfl rfl inX6 0 (by decide) rfl rfl flX6_12 rfl dX6_submit_45 rfl ?_
      refine J_aload_n (i := 3) (q := 0) (pc1 := 49) dX6_submit_48 rfl rfl rfl ?_
      refine J_iconst (v := 0) (pc1 := 50) dX6_submit_49 (by decide) rfl ?_
      refine J_iload_n (i := 2) (q := 3) (pc1 := 51) dX6_submit_50 rfl rfl rfl ?_
      obtain ⟨r9, μ10, hc8, h⟩ := gBd_s h
      refine J_callV (As := [.ref (ad 11 r2), .int 0, .int a2]) (ad := ad) (f := 6) (i := 0) (st := []) (st1 := [.int r9]) (pc1 := 54) (kX0_add l D tc sa ad nc hnc hI 0 (hnc.1) r2 h3 0 a2 μ r9 μ10 hc8) wcX0_add wlX6_144 (eC6 hnc.1) rfl rfl rfl ⟨rfl, rfl, Nat.le_of_ble_eq_true rfl, Nat.le_of_ble_eq_true rfl⟩ ⟨Nat.zero_le _, Nat.zero_le _⟩ (Nat.le_of_ble_eq_true rfl) dX6_submit_51 rfl rfl ?_
      cases h
      exact J_iret hr hlk dX6_submit_54
    · rw [if_neg q7] at h
      cases h
  · rw [if_neg q4] at h
    cases h
set_option maxHeartbeats 4000000 in
set_option maxRecDepth 100000 in
theorem tX6_submit (l : Launch) (D : va_G) (tc : Nat → ClassId) (sa : Nat → Nat) (ad : Nat → Nat → Nat) (nc : Nat) (hnc : 0 < nc ∧ nc ≤ 2) (hI : gI (gE_C nc) ad) (a1 : Int32) (a2 : Int32) (μ : gM) (hlz : l.stackTraces = false) (E0 : String) (μ' : gM) (h : mX6_submit nc a1 a2 μ = some (.inl (E0, μ'))) : gMetX l yX6_submit cX6_submit 4 (some .int) ({ frames := 7, cells := 1, slots := 6, locals := 121 } : Room) D (gE_C nc) gkd_C tc ad (grh_C nc) sa [.ref (ad 0 0), .int a1, .int a2] μ E0 μ' := by
  refine gMetX_of hI ⟨by decide +kernel, Nat.le_of_ble_eq_true rfl⟩ (fun p e s m args below meth c sz hr hlk hT => ?_)
  unfold mX6_submit at h
  show JCX p l e ({ frames := 7, cells := 1, slots := 6, locals := 121 } : Room) s m args below meth c cX6_submit 4 RX6 D tc sa ad nc sz E0 μ' μ 0 [(0, .ref (ad 0 0)), (1, .int a1), (2, .int a2)] []
  refine J_aload_n (i := 0) (q := 0) (pc1 := 1) dX6_submit_0 rfl rfl rfl ?_
  refine J_iload_n (i := 1) (q := 1) (pc1 := 2) dX6_submit_1 rfl rfl rfl ?_
  rcases gBx_l h with hc1 | ⟨r2, hc1, h⟩
  · exact J_callX (As := [.int a1]) (ad := ad) (f := 0) (i := 0) (st := []) hT (tX6_replicaAt l D tc sa ad nc hnc hI a1 μ hlz E0 μ' hc1) wcX6_replicaAt wlX6_93 eC0 rfl rfl rfl ⟨rfl, rfl, Nat.le_of_ble_eq_true rfl, Nat.le_of_ble_eq_true rfl⟩ ⟨by decide, by decide⟩ (Nat.le_of_ble_eq_true rfl) hlk dX6_submit_2
  obtain ⟨h3, h⟩ := gChk_s h
  refine J_callV (As := [.int a1]) (ad := ad) (f := 0) (i := 0) (st := []) (st1 := [.ref (ad 11 r2)]) (pc1 := 5) (kX6_replicaAt l D tc sa ad nc hnc hI a1 μ r2 hc1) wcX6_replicaAt wlX6_93 eC0 rfl rfl rfl ⟨rfl, rfl, Nat.le_of_ble_eq_true rfl, Nat.le_of_ble_eq_true rfl⟩ ⟨Nat.zero_le _, Nat.zero_le _⟩ (Nat.le_of_ble_eq_true rfl) dX6_submit_2 rfl rfl ?_
  refine J_astore_n (i := 3) (lv1 := [(3, .ref (ad 11 r2)), (0, .ref (ad 0 0)), (1, .int a1), (2, .int a2)]) (pc1 := 6) dX6_submit_5 rfl (by decide) rfl rfl ?_
  refine J_aload_n (i := 3) (q := 0) (pc1 := 7) dX6_submit_6 rfl rfl rfl ?_
  refine J_getI (T := TX4) (pc1 := 10) (eC11 h3) rfl rfl inX4 6 (by decide) rfl flX6_130 rfl dX6_submit_7 rfl ?_
  refine J_iconst (v := 2) (pc1 := 11) dX6_submit_10 (by decide) rfl ?_
  refine J_icmp_eq (tgt := 24) (pc1 := 14) dX6_submit_11 (by decide) (fun q4 => ?_) rfl (fun q4 => ?_)
  · rw [if_pos q4] at h
    refine J_aload_n (i := 3) (q := 0) (pc1 := 25) dX6_submit_24 rfl rfl rfl ?_
    refine J_getR (T := TX4) (f' := 12) (i' := r2) (pc1 := 28) (eC11 h3) rfl rfl inX4 1 (by decide) rfl rfl flX6_120 rfl dX6_submit_25 rfl ?_
    obtain ⟨r6, hc5, h⟩ := gBp_s h
    refine J_callV (As := []) (ad := ad) (f := 12) (i := r2) (st := []) (st1 := [.int r6]) (pc1 := 31) (kX1_isFull l D tc sa ad nc hnc hI r2 h3 μ r6 hc5) wcX1_isFull wlX6_135 (eC12 h3) rfl rfl rfl ⟨rfl, rfl, Nat.le_of_ble_eq_true rfl, Nat.le_of_ble_eq_true rfl⟩ ⟨Nat.zero_le _, Nat.zero_le _⟩ (Nat.le_of_ble_eq_true rfl) dX6_submit_28 rfl rfl ?_
    refine J_if_eq (tgt := 44) (pc1 := 34) dX6_submit_31 (by decide) (fun q7 => ?_) rfl (fun q7 => ?_)
    · rw [if_pos q7] at h
      refine J_aload_n (i := 0) (q := 1) (pc1 := 45) dX6_submit_44 rfl rfl rfl ?_
      refine J_getR (T := TX6) (f' := 6) (i' := 0) (pc1 := 48) eC0 rfl rfl inX6 0 (by decide) rfl rfl flX6_12 rfl dX6_submit_45 rfl ?_
      refine J_aload_n (i := 3) (q := 0) (pc1 := 49) dX6_submit_48 rfl rfl rfl ?_
      refine J_iconst (v := 0) (pc1 := 50) dX6_submit_49 (by decide) rfl ?_
      refine J_iload_n (i := 2) (q := 3) (pc1 := 51) dX6_submit_50 rfl rfl rfl ?_
      obtain ⟨r9, μ10, hc8, h⟩ := gBd_s h
      refine J_callV (As := [.ref (ad 11 r2), .int 0, .int a2]) (ad := ad) (f := 6) (i := 0) (st := []) (st1 := [.int r9]) (pc1 := 54) (kX0_add l D tc sa ad nc hnc hI 0 (hnc.1) r2 h3 0 a2 μ r9 μ10 hc8) wcX0_add wlX6_144 (eC6 hnc.1) rfl rfl rfl ⟨rfl, rfl, Nat.le_of_ble_eq_true rfl, Nat.le_of_ble_eq_true rfl⟩ ⟨Nat.zero_le _, Nat.zero_le _⟩ (Nat.le_of_ble_eq_true rfl) dX6_submit_51 rfl rfl ?_
      cases h
    · rw [if_neg q7] at h
      cases h
      exact J_throwS (i := 8) (text := jsT 8) hlz hT xf_UnsupportedOperationException clX6_139 ini_UnsupportedOperationException ⟨by decide, rfl, rfl, rfl⟩ (xh_UnsupportedOperationException clX6_139) hlk dX6_submit_34 dX6_submit_37 dX6_submit_38 dX6_submit_40 dX6_submit_43 ⟨by decide, by decide, by decide, by decide⟩
  · rw [if_neg q4] at h
    cases h
    exact J_throwS (i := 7) (text := jsT 7) hlz hT xf_IllegalStateException clX6_103 ini_IllegalStateException ⟨by decide, rfl, rfl, rfl⟩ (xh_IllegalStateException clX6_103) hlk dX6_submit_14 dX6_submit_17 dX6_submit_18 dX6_submit_20 dX6_submit_23 ⟨by decide, by decide, by decide, by decide⟩
def mX6_reconfigure (nc : Nat) (a1 : Int32) (a2 : Int32) (μ : gM) : Option (Sum (String × gM) ((Int32 × gM))) :=
  gBx (mX6_replicaAt nc a1 μ) fun r2 =>
  gChk (r2 < 5 * nc) <|
  gBp (mX6_isGroup nc a2 μ) fun r5 =>
  if r5 = 0 then
    some (.inl ("java/lang/IllegalArgumentException", μ))
  else
    if (μ 11 r2 6) = 2 then
      gBp (mX1_isJoint nc r2 μ) fun r9 =>
      gJon (fun (u11 : Unit) =>
          some (.inl ("java/lang/IllegalStateException", μ))) fun j10 =>
      if r9 = 0 then
        gBp (mX4_isConfigurationCommitted nc r2 μ) fun r14 =>
        if r14 = 0 then
          j10 () 
        else
          gBp (mX1_isFull nc r2 μ) fun r17 =>
          if r17 = 0 then
            gBd (mX0_add nc 0 r2 1 ((32 * (μ 12 r2 11)) + a2) μ) fun r20 μ21 =>
            some (.inr (r20, μ21))
          else
            some (.inl ("java/lang/UnsupportedOperationException", μ))
      else
        j10 () 
    else
      some (.inl ("java/lang/IllegalStateException", μ))
set_option maxHeartbeats 4000000 in
set_option maxRecDepth 100000 in
theorem kX6_reconfigure (l : Launch) (D : va_G) (tc : Nat → ClassId) (sa : Nat → Nat) (ad : Nat → Nat → Nat) (nc : Nat) (hnc : 0 < nc ∧ nc ≤ 2) (hI : gI (gE_C nc) ad) (a1 : Int32) (a2 : Int32) (μ : gM) (r : Int32) (μ' : gM) (h : mX6_reconfigure nc a1 a2 μ = some (.inr (r, μ'))) : gMet l yX6_reconfigure cX6_reconfigure 4 (some .int) ({ frames := 5, cells := 0, slots := 0, locals := 112 } : Room) D (gE_C nc) gkd_C tc ad (grh_C nc) sa [.ref (ad 0 0), .int a1, .int a2] μ (some (.int r)) μ' := by
  refine gMet_of hI ⟨by decide +kernel, Nat.le_of_ble_eq_true rfl⟩ (fun p e s m args below meth c sz hr hlk => ?_)
  unfold mX6_reconfigure at h
  show JC p l e ({ frames := 5, cells := 0, slots := 0, locals := 112 } : Room) s m args below meth c cX6_reconfigure 4 RX6 D tc sa ad nc sz (some (.int r)) μ' μ 0 [(0, .ref (ad 0 0)), (1, .int a1), (2, .int a2)] []
  refine J_aload_n (i := 0) (q := 0) (pc1 := 1) dX6_reconfigure_0 rfl rfl rfl ?_
  refine J_iload_n (i := 1) (q := 1) (pc1 := 2) dX6_reconfigure_1 rfl rfl rfl ?_
  obtain ⟨r2, hc1, h⟩ := gBx_r h
  obtain ⟨h3, h⟩ := gChk_s h
  refine J_callV (As := [.int a1]) (ad := ad) (f := 0) (i := 0) (st := []) (st1 := [.ref (ad 11 r2)]) (pc1 := 5) (kX6_replicaAt l D tc sa ad nc hnc hI a1 μ r2 hc1) wcX6_replicaAt wlX6_93 eC0 rfl rfl rfl ⟨rfl, rfl, Nat.le_of_ble_eq_true rfl, Nat.le_of_ble_eq_true rfl⟩ ⟨Nat.zero_le _, Nat.zero_le _⟩ (Nat.le_of_ble_eq_true rfl) dX6_reconfigure_2 rfl rfl ?_
  refine J_astore_n (i := 3) (lv1 := [(3, .ref (ad 11 r2)), (0, .ref (ad 0 0)), (1, .int a1), (2, .int a2)]) (pc1 := 6) dX6_reconfigure_5 rfl (by decide) rfl rfl ?_
  refine J_iload_n (i := 2) (q := 3) (pc1 := 7) dX6_reconfigure_6 rfl rfl rfl ?_
  obtain ⟨r5, hc4, h⟩ := gBp_s h
  refine J_callS (As := [.int a2]) (st := []) (st1 := [.int r5]) (pc1 := 10) (kX6_isGroup l D tc sa ad nc hnc hI a2 μ r5 hc4) wcX6_isGroup wlX6_34 rfl ⟨rfl, rfl, Nat.le_of_ble_eq_true rfl, Nat.le_of_ble_eq_true rfl⟩ ⟨Nat.zero_le _, Nat.zero_le _⟩ (Nat.le_of_ble_eq_true rfl) dX6_reconfigure_7 rfl rfl ?_
  refine J_if_ne (tgt := 23) (pc1 := 13) dX6_reconfigure_10 (by decide) (fun q6 => ?_) rfl (fun q6 => ?_)
  · rw [if_neg q6] at h
    refine J_aload_n (i := 3) (q := 0) (pc1 := 24) dX6_reconfigure_23 rfl rfl rfl ?_
    refine J_getI (T := TX4) (pc1 := 27) (eC11 h3) rfl rfl inX4 6 (by decide) rfl flX6_130 rfl dX6_reconfigure_24 rfl ?_
    refine J_iconst (v := 2) (pc1 := 28) dX6_reconfigure_27 (by decide) rfl ?_
    refine J_icmp_eq (tgt := 41) (pc1 := 31) dX6_reconfigure_28 (by decide) (fun q7 => ?_) rfl (fun q7 => ?_)
    · rw [if_pos q7] at h
      refine J_aload_n (i := 3) (q := 0) (pc1 := 42) dX6_reconfigure_41 rfl rfl rfl ?_
      refine J_getR (T := TX4) (f' := 12) (i' := r2) (pc1 := 45) (eC11 h3) rfl rfl inX4 1 (by decide) rfl rfl flX6_120 rfl dX6_reconfigure_42 rfl ?_
      obtain ⟨r9, hc8, h⟩ := gBp_s h
      refine J_callV (As := []) (ad := ad) (f := 12) (i := r2) (st := []) (st1 := [.int r9]) (pc1 := 48) (kX1_isJoint l D tc sa ad nc hnc hI r2 h3 μ r9 hc8) wcX1_isJoint wlX6_148 (eC12 h3) rfl rfl rfl ⟨rfl, rfl, Nat.le_of_ble_eq_true rfl, Nat.le_of_ble_eq_true rfl⟩ ⟨Nat.zero_le _, Nat.zero_le _⟩ (Nat.le_of_ble_eq_true rfl) dX6_reconfigure_45 rfl rfl ?_
      obtain ⟨j10, ej10, h⟩ := gJon_s h
      have kj10 : ∀ (u11 : Unit), j10 u11 = some (.inr (r, μ')) → JC p l e ({ frames := 5, cells := 0, slots := 0, locals := 112 } : Room) s m args below meth c cX6_reconfigure 4 RX6 D tc sa ad nc sz (some (.int r)) μ' μ 58 [] [] := by
        intro u11 h
        rw [ej10] at h
        try dsimp only at h
        cases h
      clear ej10
      refine J_if_ne (tgt := 58) (pc1 := 51) dX6_reconfigure_48 (by decide) (fun q12 => ?_) rfl (fun q12 => ?_)
      · rw [if_neg q12] at h
        refine J_sub [] (lv1 := []) rfl ?_
        exact kj10 ()  h
      · rw [if_pos q12] at h
        refine J_aload_n (i := 3) (q := 0) (pc1 := 52) dX6_reconfigure_51 rfl rfl rfl ?_
        obtain ⟨r14, hc13, h⟩ := gBp_s h
        refine J_callV (As := []) (ad := ad) (f := 11) (i := r2) (st := []) (st1 := [.int r14]) (pc1 := 55) (kX4_isConfigurationCommitted l D tc sa ad nc hnc hI r2 h3 μ r14 hc13) wcX4_isConfigurationCommitted wlX6_151 (eC11 h3) rfl rfl rfl ⟨rfl, rfl, Nat.le_of_ble_eq_true rfl, Nat.le_of_ble_eq_true rfl⟩ ⟨Nat.zero_le _, Nat.zero_le _⟩ (Nat.le_of_ble_eq_true rfl) dX6_reconfigure_52 rfl rfl ?_
        refine J_if_ne (tgt := 68) (pc1 := 58) dX6_reconfigure_55 (by decide) (fun q15 => ?_) rfl (fun q15 => ?_)
        · rw [if_neg q15] at h
          refine J_aload_n (i := 3) (q := 0) (pc1 := 69) dX6_reconfigure_68 rfl rfl rfl ?_
          refine J_getR (T := TX4) (f' := 12) (i' := r2) (pc1 := 72) (eC11 h3) rfl rfl inX4 1 (by decide) rfl rfl flX6_120 rfl dX6_reconfigure_69 rfl ?_
          obtain ⟨r17, hc16, h⟩ := gBp_s h
          refine J_callV (As := []) (ad := ad) (f := 12) (i := r2) (st := []) (st1 := [.int r17]) (pc1 := 75) (kX1_isFull l D tc sa ad nc hnc hI r2 h3 μ r17 hc16) wcX1_isFull wlX6_135 (eC12 h3) rfl rfl rfl ⟨rfl, rfl, Nat.le_of_ble_eq_true rfl, Nat.le_of_ble_eq_true rfl⟩ ⟨Nat.zero_le _, Nat.zero_le _⟩ (Nat.le_of_ble_eq_true rfl) dX6_reconfigure_72 rfl rfl ?_
          refine J_if_eq (tgt := 88) (pc1 := 78) dX6_reconfigure_75 (by decide) (fun q18 => ?_) rfl (fun q18 => ?_)
          · rw [if_pos q18] at h
            refine J_aload_n (i := 0) (q := 1) (pc1 := 89) dX6_reconfigure_88 rfl rfl rfl ?_
            refine J_getR (T := TX6) (f' := 6) (i' := 0) (pc1 := 92) eC0 rfl rfl inX6 0 (by decide) rfl rfl flX6_12 rfl dX6_reconfigure_89 rfl ?_
            refine J_aload_n (i := 3) (q := 0) (pc1 := 93) dX6_reconfigure_92 rfl rfl rfl ?_
            refine J_iconst (v := 1) (pc1 := 94) dX6_reconfigure_93 (by decide) rfl ?_
            refine J_bipush (v := 32) (pc1 := 96) dX6_reconfigure_94 (by decide) rfl ?_
            refine J_aload_n (i := 3) (q := 0) (pc1 := 97) dX6_reconfigure_96 rfl rfl rfl ?_
            refine J_getR (T := TX4) (f' := 12) (i' := r2) (pc1 := 100) (eC11 h3) rfl rfl inX4 1 (by decide) rfl rfl flX6_120 rfl dX6_reconfigure_97 rfl ?_
            refine J_getI (T := TX1) (pc1 := 103) (eC12 h3) rfl rfl inX1 11 (by decide) rfl flX6_156 rfl dX6_reconfigure_100 rfl ?_
            refine J_imul (pc1 := 104) dX6_reconfigure_103 rfl ?_
            refine J_iload_n (i := 2) (q := 3) (pc1 := 105) dX6_reconfigure_104 rfl rfl rfl ?_
            refine J_iadd (pc1 := 106) dX6_reconfigure_105 rfl ?_
            obtain ⟨r20, μ21, hc19, h⟩ := gBd_s h
            refine J_callV (As := [.ref (ad 11 r2), .int 1, .int ((32 * (μ 12 r2 11)) + a2)]) (ad := ad) (f := 6) (i := 0) (st := []) (st1 := [.int r20]) (pc1 := 109) (kX0_add l D tc sa ad nc hnc hI 0 (hnc.1) r2 h3 1 ((32 * (μ 12 r2 11)) + a2) μ r20 μ21 hc19) wcX0_add wlX6_144 (eC6 hnc.1) rfl rfl rfl ⟨rfl, rfl, Nat.le_of_ble_eq_true rfl, Nat.le_of_ble_eq_true rfl⟩ ⟨Nat.zero_le _, Nat.zero_le _⟩ (Nat.le_of_ble_eq_true rfl) dX6_reconfigure_106 rfl rfl ?_
            cases h
            exact J_iret hr hlk dX6_reconfigure_109
          · rw [if_neg q18] at h
            cases h
        · rw [if_pos q15] at h
          refine J_sub [] (lv1 := []) rfl ?_
          exact kj10 ()  h
    · rw [if_neg q7] at h
      cases h
  · rw [if_pos q6] at h
    cases h
set_option maxHeartbeats 4000000 in
set_option maxRecDepth 100000 in
theorem tX6_reconfigure (l : Launch) (D : va_G) (tc : Nat → ClassId) (sa : Nat → Nat) (ad : Nat → Nat → Nat) (nc : Nat) (hnc : 0 < nc ∧ nc ≤ 2) (hI : gI (gE_C nc) ad) (a1 : Int32) (a2 : Int32) (μ : gM) (hlz : l.stackTraces = false) (E0 : String) (μ' : gM) (h : mX6_reconfigure nc a1 a2 μ = some (.inl (E0, μ'))) : gMetX l yX6_reconfigure cX6_reconfigure 4 (some .int) ({ frames := 7, cells := 1, slots := 6, locals := 121 } : Room) D (gE_C nc) gkd_C tc ad (grh_C nc) sa [.ref (ad 0 0), .int a1, .int a2] μ E0 μ' := by
  refine gMetX_of hI ⟨by decide +kernel, Nat.le_of_ble_eq_true rfl⟩ (fun p e s m args below meth c sz hr hlk hT => ?_)
  unfold mX6_reconfigure at h
  show JCX p l e ({ frames := 7, cells := 1, slots := 6, locals := 121 } : Room) s m args below meth c cX6_reconfigure 4 RX6 D tc sa ad nc sz E0 μ' μ 0 [(0, .ref (ad 0 0)), (1, .int a1), (2, .int a2)] []
  refine J_aload_n (i := 0) (q := 0) (pc1 := 1) dX6_reconfigure_0 rfl rfl rfl ?_
  refine J_iload_n (i := 1) (q := 1) (pc1 := 2) dX6_reconfigure_1 rfl rfl rfl ?_
  rcases gBx_l h with hc1 | ⟨r2, hc1, h⟩
  · exact J_callX (As := [.int a1]) (ad := ad) (f := 0) (i := 0) (st := []) hT (tX6_replicaAt l D tc sa ad nc hnc hI a1 μ hlz E0 μ' hc1) wcX6_replicaAt wlX6_93 eC0 rfl rfl rfl ⟨rfl, rfl, Nat.le_of_ble_eq_true rfl, Nat.le_of_ble_eq_true rfl⟩ ⟨by decide, by decide⟩ (Nat.le_of_ble_eq_true rfl) hlk dX6_reconfigure_2
  obtain ⟨h3, h⟩ := gChk_s h
  refine J_callV (As := [.int a1]) (ad := ad) (f := 0) (i := 0) (st := []) (st1 := [.ref (ad 11 r2)]) (pc1 := 5) (kX6_replicaAt l D tc sa ad nc hnc hI a1 μ r2 hc1) wcX6_replicaAt wlX6_93 eC0 rfl rfl rfl ⟨rfl, rfl, Nat.le_of_ble_eq_true rfl, Nat.le_of_ble_eq_true rfl⟩ ⟨Nat.zero_le _, Nat.zero_le _⟩ (Nat.le_of_ble_eq_true rfl) dX6_reconfigure_2 rfl rfl ?_
  refine J_astore_n (i := 3) (lv1 := [(3, .ref (ad 11 r2)), (0, .ref (ad 0 0)), (1, .int a1), (2, .int a2)]) (pc1 := 6) dX6_reconfigure_5 rfl (by decide) rfl rfl ?_
  refine J_iload_n (i := 2) (q := 3) (pc1 := 7) dX6_reconfigure_6 rfl rfl rfl ?_
  obtain ⟨r5, hc4, h⟩ := gBp_s h
  refine J_callS (As := [.int a2]) (st := []) (st1 := [.int r5]) (pc1 := 10) (kX6_isGroup l D tc sa ad nc hnc hI a2 μ r5 hc4) wcX6_isGroup wlX6_34 rfl ⟨rfl, rfl, Nat.le_of_ble_eq_true rfl, Nat.le_of_ble_eq_true rfl⟩ ⟨Nat.zero_le _, Nat.zero_le _⟩ (Nat.le_of_ble_eq_true rfl) dX6_reconfigure_7 rfl rfl ?_
  refine J_if_ne (tgt := 23) (pc1 := 13) dX6_reconfigure_10 (by decide) (fun q6 => ?_) rfl (fun q6 => ?_)
  · rw [if_neg q6] at h
    refine J_aload_n (i := 3) (q := 0) (pc1 := 24) dX6_reconfigure_23 rfl rfl rfl ?_
    refine J_getI (T := TX4) (pc1 := 27) (eC11 h3) rfl rfl inX4 6 (by decide) rfl flX6_130 rfl dX6_reconfigure_24 rfl ?_
    refine J_iconst (v := 2) (pc1 := 28) dX6_reconfigure_27 (by decide) rfl ?_
    refine J_icmp_eq (tgt := 41) (pc1 := 31) dX6_reconfigure_28 (by decide) (fun q7 => ?_) rfl (fun q7 => ?_)
    · rw [if_pos q7] at h
      refine J_aload_n (i := 3) (q := 0) (pc1 := 42) dX6_reconfigure_41 rfl rfl rfl ?_
      refine J_getR (T := TX4) (f' := 12) (i' := r2) (pc1 := 45) (eC11 h3) rfl rfl inX4 1 (by decide) rfl rfl flX6_120 rfl dX6_reconfigure_42 rfl ?_
      obtain ⟨r9, hc8, h⟩ := gBp_s h
      refine J_callV (As := []) (ad := ad) (f := 12) (i := r2) (st := []) (st1 := [.int r9]) (pc1 := 48) (kX1_isJoint l D tc sa ad nc hnc hI r2 h3 μ r9 hc8) wcX1_isJoint wlX6_148 (eC12 h3) rfl rfl rfl ⟨rfl, rfl, Nat.le_of_ble_eq_true rfl, Nat.le_of_ble_eq_true rfl⟩ ⟨Nat.zero_le _, Nat.zero_le _⟩ (Nat.le_of_ble_eq_true rfl) dX6_reconfigure_45 rfl rfl ?_
      obtain ⟨j10, ej10, h⟩ := gJon_s h
      have kj10 : ∀ (u11 : Unit), j10 u11 = some (.inl (E0, μ')) → JCX p l e ({ frames := 7, cells := 1, slots := 6, locals := 121 } : Room) s m args below meth c cX6_reconfigure 4 RX6 D tc sa ad nc sz E0 μ' μ 58 [] [] := by
        intro u11 h
        rw [ej10] at h
        try dsimp only at h
        cases h
        exact J_throwS (i := 9) (text := jsT 9) hlz hT xf_IllegalStateException clX6_103 ini_IllegalStateException ⟨by decide, rfl, rfl, rfl⟩ (xh_IllegalStateException clX6_103) hlk dX6_reconfigure_58 dX6_reconfigure_61 dX6_reconfigure_62 dX6_reconfigure_64 dX6_reconfigure_67 ⟨by decide, by decide, by decide, by decide⟩
      clear ej10
      refine J_if_ne (tgt := 58) (pc1 := 51) dX6_reconfigure_48 (by decide) (fun q12 => ?_) rfl (fun q12 => ?_)
      · rw [if_neg q12] at h
        refine J_sub [] (lv1 := []) rfl ?_
        exact kj10 ()  h
      · rw [if_pos q12] at h
        refine J_aload_n (i := 3) (q := 0) (pc1 := 52) dX6_reconfigure_51 rfl rfl rfl ?_
        obtain ⟨r14, hc13, h⟩ := gBp_s h
        refine J_callV (As := []) (ad := ad) (f := 11) (i := r2) (st := []) (st1 := [.int r14]) (pc1 := 55) (kX4_isConfigurationCommitted l D tc sa ad nc hnc hI r2 h3 μ r14 hc13) wcX4_isConfigurationCommitted wlX6_151 (eC11 h3) rfl rfl rfl ⟨rfl, rfl, Nat.le_of_ble_eq_true rfl, Nat.le_of_ble_eq_true rfl⟩ ⟨Nat.zero_le _, Nat.zero_le _⟩ (Nat.le_of_ble_eq_true rfl) dX6_reconfigure_52 rfl rfl ?_
        refine J_if_ne (tgt := 68) (pc1 := 58) dX6_reconfigure_55 (by decide) (fun q15 => ?_) rfl (fun q15 => ?_)
        · rw [if_neg q15] at h
          refine J_aload_n (i := 3) (q := 0) (pc1 := 69) dX6_reconfigure_68 rfl rfl rfl ?_
          refine J_getR (T := TX4) (f' := 12) (i' := r2) (pc1 := 72) (eC11 h3) rfl rfl inX4 1 (by decide) rfl rfl flX6_120 rfl dX6_reconfigure_69 rfl ?_
          obtain ⟨r17, hc16, h⟩ := gBp_s h
          refine J_callV (As := []) (ad := ad) (f := 12) (i := r2) (st := []) (st1 := [.int r17]) (pc1 := 75) (kX1_isFull l D tc sa ad nc hnc hI r2 h3 μ r17 hc16) wcX1_isFull wlX6_135 (eC12 h3) rfl rfl rfl ⟨rfl, rfl, Nat.le_of_ble_eq_true rfl, Nat.le_of_ble_eq_true rfl⟩ ⟨Nat.zero_le _, Nat.zero_le _⟩ (Nat.le_of_ble_eq_true rfl) dX6_reconfigure_72 rfl rfl ?_
          refine J_if_eq (tgt := 88) (pc1 := 78) dX6_reconfigure_75 (by decide) (fun q18 => ?_) rfl (fun q18 => ?_)
          · rw [if_pos q18] at h
            refine J_aload_n (i := 0) (q := 1) (pc1 := 89) dX6_reconfigure_88 rfl rfl rfl ?_
            refine J_getR (T := TX6) (f' := 6) (i' := 0) (pc1 := 92) eC0 rfl rfl inX6 0 (by decide) rfl rfl flX6_12 rfl dX6_reconfigure_89 rfl ?_
            refine J_aload_n (i := 3) (q := 0) (pc1 := 93) dX6_reconfigure_92 rfl rfl rfl ?_
            refine J_iconst (v := 1) (pc1 := 94) dX6_reconfigure_93 (by decide) rfl ?_
            refine J_bipush (v := 32) (pc1 := 96) dX6_reconfigure_94 (by decide) rfl ?_
            refine J_aload_n (i := 3) (q := 0) (pc1 := 97) dX6_reconfigure_96 rfl rfl rfl ?_
            refine J_getR (T := TX4) (f' := 12) (i' := r2) (pc1 := 100) (eC11 h3) rfl rfl inX4 1 (by decide) rfl rfl flX6_120 rfl dX6_reconfigure_97 rfl ?_
            refine J_getI (T := TX1) (pc1 := 103) (eC12 h3) rfl rfl inX1 11 (by decide) rfl flX6_156 rfl dX6_reconfigure_100 rfl ?_
            refine J_imul (pc1 := 104) dX6_reconfigure_103 rfl ?_
            refine J_iload_n (i := 2) (q := 3) (pc1 := 105) dX6_reconfigure_104 rfl rfl rfl ?_
            refine J_iadd (pc1 := 106) dX6_reconfigure_105 rfl ?_
            obtain ⟨r20, μ21, hc19, h⟩ := gBd_s h
            refine J_callV (As := [.ref (ad 11 r2), .int 1, .int ((32 * (μ 12 r2 11)) + a2)]) (ad := ad) (f := 6) (i := 0) (st := []) (st1 := [.int r20]) (pc1 := 109) (kX0_add l D tc sa ad nc hnc hI 0 (hnc.1) r2 h3 1 ((32 * (μ 12 r2 11)) + a2) μ r20 μ21 hc19) wcX0_add wlX6_144 (eC6 hnc.1) rfl rfl rfl ⟨rfl, rfl, Nat.le_of_ble_eq_true rfl, Nat.le_of_ble_eq_true rfl⟩ ⟨Nat.zero_le _, Nat.zero_le _⟩ (Nat.le_of_ble_eq_true rfl) dX6_reconfigure_106 rfl rfl ?_
            cases h
          · rw [if_neg q18] at h
            cases h
            exact J_throwS (i := 8) (text := jsT 8) hlz hT xf_UnsupportedOperationException clX6_139 ini_UnsupportedOperationException ⟨by decide, rfl, rfl, rfl⟩ (xh_UnsupportedOperationException clX6_139) hlk dX6_reconfigure_78 dX6_reconfigure_81 dX6_reconfigure_82 dX6_reconfigure_84 dX6_reconfigure_87 ⟨by decide, by decide, by decide, by decide⟩
        · rw [if_pos q15] at h
          refine J_sub [] (lv1 := []) rfl ?_
          exact kj10 ()  h
    · rw [if_neg q7] at h
      cases h
      exact J_throwS (i := 7) (text := jsT 7) hlz hT xf_IllegalStateException clX6_103 ini_IllegalStateException ⟨by decide, rfl, rfl, rfl⟩ (xh_IllegalStateException clX6_103) hlk dX6_reconfigure_31 dX6_reconfigure_34 dX6_reconfigure_35 dX6_reconfigure_37 dX6_reconfigure_40 ⟨by decide, by decide, by decide, by decide⟩
  · rw [if_pos q6] at h
    cases h
    exact J_throwS (i := 0) (text := jsT 0) hlz hT xf_IllegalArgumentException clX6_38 ini_IllegalArgumentException ⟨by decide, rfl, rfl, rfl⟩ (xh_IllegalArgumentException clX6_38) hlk dX6_reconfigure_13 dX6_reconfigure_16 dX6_reconfigure_17 dX6_reconfigure_19 dX6_reconfigure_22 ⟨by decide, by decide, by decide, by decide⟩
def mX6_pack (nc : Nat) (a1 : Int32) (μ : gM) : Option (Sum (String × gM) ((Int32 × gM))) :=
  gBx (mX6_replicaAt nc a1 μ) fun r2 =>
  gChk (r2 < 5 * nc) <|
  if (μ 11 r2 5) = 0 then
    some (.inl ("java/lang/IllegalStateException", μ))
  else
    gBd (mX1_packTo nc r2 (μ 11 r2 9) μ) fun r6 μ7 =>
    some (.inr (r6, μ7))
set_option maxHeartbeats 4000000 in
set_option maxRecDepth 100000 in
theorem kX6_pack (l : Launch) (D : va_G) (tc : Nat → ClassId) (sa : Nat → Nat) (ad : Nat → Nat → Nat) (nc : Nat) (hnc : 0 < nc ∧ nc ≤ 2) (hI : gI (gE_C nc) ad) (a1 : Int32) (μ : gM) (r : Int32) (μ' : gM) (h : mX6_pack nc a1 μ = some (.inr (r, μ'))) : gMet l yX6_pack cX6_pack 3 (some .int) ({ frames := 3, cells := 0, slots := 0, locals := 124 } : Room) D (gE_C nc) gkd_C tc ad (grh_C nc) sa [.ref (ad 0 0), .int a1] μ (some (.int r)) μ' := by
  refine gMet_of hI ⟨by decide +kernel, Nat.le_of_ble_eq_true rfl⟩ (fun p e s m args below meth c sz hr hlk => ?_)
  unfold mX6_pack at h
  show JC p l e ({ frames := 3, cells := 0, slots := 0, locals := 124 } : Room) s m args below meth c cX6_pack 3 RX6 D tc sa ad nc sz (some (.int r)) μ' μ 0 [(0, .ref (ad 0 0)), (1, .int a1)] []
  refine J_aload_n (i := 0) (q := 0) (pc1 := 1) dX6_pack_0 rfl rfl rfl ?_
  refine J_iload_n (i := 1) (q := 1) (pc1 := 2) dX6_pack_1 rfl rfl rfl ?_
  obtain ⟨r2, hc1, h⟩ := gBx_r h
  obtain ⟨h3, h⟩ := gChk_s h
  refine J_callV (As := [.int a1]) (ad := ad) (f := 0) (i := 0) (st := []) (st1 := [.ref (ad 11 r2)]) (pc1 := 5) (kX6_replicaAt l D tc sa ad nc hnc hI a1 μ r2 hc1) wcX6_replicaAt wlX6_93 eC0 rfl rfl rfl ⟨rfl, rfl, Nat.le_of_ble_eq_true rfl, Nat.le_of_ble_eq_true rfl⟩ ⟨Nat.zero_le _, Nat.zero_le _⟩ (Nat.le_of_ble_eq_true rfl) dX6_pack_2 rfl rfl ?_
  refine J_astore_n (i := 2) (lv1 := [(2, .ref (ad 11 r2)), (0, .ref (ad 0 0)), (1, .int a1)]) (pc1 := 6) dX6_pack_5 rfl (by decide) rfl rfl ?_
  refine J_aload_n (i := 2) (q := 0) (pc1 := 7) dX6_pack_6 rfl rfl rfl ?_
  refine J_getI (T := TX4) (pc1 := 10) (eC11 h3) rfl rfl inX4 5 (by decide) rfl flX6_97 rfl dX6_pack_7 rfl ?_
  refine J_if_ne (tgt := 23) (pc1 := 13) dX6_pack_10 (by decide) (fun q4 => ?_) rfl (fun q4 => ?_)
  · rw [if_neg q4] at h
    refine J_aload_n (i := 2) (q := 0) (pc1 := 24) dX6_pack_23 rfl rfl rfl ?_
    refine J_getR (T := TX4) (f' := 12) (i' := r2) (pc1 := 27) (eC11 h3) rfl rfl inX4 1 (by decide) rfl rfl flX6_120 rfl dX6_pack_24 rfl ?_
    refine J_aload_n (i := 2) (q := 0) (pc1 := 28) dX6_pack_27 rfl rfl rfl ?_
    refine J_getI (T := TX4) (pc1 := 31) (eC11 h3) rfl rfl inX4 9 (by decide) rfl flX6_159 rfl dX6_pack_28 rfl ?_
    obtain ⟨r6, μ7, hc5, h⟩ := gBd_s h
    refine J_callV (As := [.int (μ 11 r2 9)]) (ad := ad) (f := 12) (i := r2) (st := []) (st1 := [.int r6]) (pc1 := 34) (kX1_packTo l D tc sa ad nc hnc hI r2 h3 (μ 11 r2 9) μ r6 μ7 hc5) wcX1_packTo wlX6_162 (eC12 h3) rfl rfl rfl ⟨rfl, rfl, Nat.le_of_ble_eq_true rfl, Nat.le_of_ble_eq_true rfl⟩ ⟨Nat.zero_le _, Nat.zero_le _⟩ (Nat.le_of_ble_eq_true rfl) dX6_pack_31 rfl rfl ?_
    cases h
    exact J_iret hr hlk dX6_pack_34
  · rw [if_pos q4] at h
    cases h
set_option maxHeartbeats 4000000 in
set_option maxRecDepth 100000 in
theorem tX6_pack (l : Launch) (D : va_G) (tc : Nat → ClassId) (sa : Nat → Nat) (ad : Nat → Nat → Nat) (nc : Nat) (hnc : 0 < nc ∧ nc ≤ 2) (hI : gI (gE_C nc) ad) (a1 : Int32) (μ : gM) (hlz : l.stackTraces = false) (E0 : String) (μ' : gM) (h : mX6_pack nc a1 μ = some (.inl (E0, μ'))) : gMetX l yX6_pack cX6_pack 3 (some .int) ({ frames := 7, cells := 1, slots := 6, locals := 124 } : Room) D (gE_C nc) gkd_C tc ad (grh_C nc) sa [.ref (ad 0 0), .int a1] μ E0 μ' := by
  refine gMetX_of hI ⟨by decide +kernel, Nat.le_of_ble_eq_true rfl⟩ (fun p e s m args below meth c sz hr hlk hT => ?_)
  unfold mX6_pack at h
  show JCX p l e ({ frames := 7, cells := 1, slots := 6, locals := 124 } : Room) s m args below meth c cX6_pack 3 RX6 D tc sa ad nc sz E0 μ' μ 0 [(0, .ref (ad 0 0)), (1, .int a1)] []
  refine J_aload_n (i := 0) (q := 0) (pc1 := 1) dX6_pack_0 rfl rfl rfl ?_
  refine J_iload_n (i := 1) (q := 1) (pc1 := 2) dX6_pack_1 rfl rfl rfl ?_
  rcases gBx_l h with hc1 | ⟨r2, hc1, h⟩
  · exact J_callX (As := [.int a1]) (ad := ad) (f := 0) (i := 0) (st := []) hT (tX6_replicaAt l D tc sa ad nc hnc hI a1 μ hlz E0 μ' hc1) wcX6_replicaAt wlX6_93 eC0 rfl rfl rfl ⟨rfl, rfl, Nat.le_of_ble_eq_true rfl, Nat.le_of_ble_eq_true rfl⟩ ⟨by decide, by decide⟩ (Nat.le_of_ble_eq_true rfl) hlk dX6_pack_2
  obtain ⟨h3, h⟩ := gChk_s h
  refine J_callV (As := [.int a1]) (ad := ad) (f := 0) (i := 0) (st := []) (st1 := [.ref (ad 11 r2)]) (pc1 := 5) (kX6_replicaAt l D tc sa ad nc hnc hI a1 μ r2 hc1) wcX6_replicaAt wlX6_93 eC0 rfl rfl rfl ⟨rfl, rfl, Nat.le_of_ble_eq_true rfl, Nat.le_of_ble_eq_true rfl⟩ ⟨Nat.zero_le _, Nat.zero_le _⟩ (Nat.le_of_ble_eq_true rfl) dX6_pack_2 rfl rfl ?_
  refine J_astore_n (i := 2) (lv1 := [(2, .ref (ad 11 r2)), (0, .ref (ad 0 0)), (1, .int a1)]) (pc1 := 6) dX6_pack_5 rfl (by decide) rfl rfl ?_
  refine J_aload_n (i := 2) (q := 0) (pc1 := 7) dX6_pack_6 rfl rfl rfl ?_
  refine J_getI (T := TX4) (pc1 := 10) (eC11 h3) rfl rfl inX4 5 (by decide) rfl flX6_97 rfl dX6_pack_7 rfl ?_
  refine J_if_ne (tgt := 23) (pc1 := 13) dX6_pack_10 (by decide) (fun q4 => ?_) rfl (fun q4 => ?_)
  · rw [if_neg q4] at h
    refine J_aload_n (i := 2) (q := 0) (pc1 := 24) dX6_pack_23 rfl rfl rfl ?_
    refine J_getR (T := TX4) (f' := 12) (i' := r2) (pc1 := 27) (eC11 h3) rfl rfl inX4 1 (by decide) rfl rfl flX6_120 rfl dX6_pack_24 rfl ?_
    refine J_aload_n (i := 2) (q := 0) (pc1 := 28) dX6_pack_27 rfl rfl rfl ?_
    refine J_getI (T := TX4) (pc1 := 31) (eC11 h3) rfl rfl inX4 9 (by decide) rfl flX6_159 rfl dX6_pack_28 rfl ?_
    obtain ⟨r6, μ7, hc5, h⟩ := gBd_s h
    refine J_callV (As := [.int (μ 11 r2 9)]) (ad := ad) (f := 12) (i := r2) (st := []) (st1 := [.int r6]) (pc1 := 34) (kX1_packTo l D tc sa ad nc hnc hI r2 h3 (μ 11 r2 9) μ r6 μ7 hc5) wcX1_packTo wlX6_162 (eC12 h3) rfl rfl rfl ⟨rfl, rfl, Nat.le_of_ble_eq_true rfl, Nat.le_of_ble_eq_true rfl⟩ ⟨Nat.zero_le _, Nat.zero_le _⟩ (Nat.le_of_ble_eq_true rfl) dX6_pack_31 rfl rfl ?_
    cases h
  · rw [if_pos q4] at h
    cases h
    exact J_throwS (i := 5) (text := jsT 5) hlz hT xf_IllegalStateException clX6_103 ini_IllegalStateException ⟨by decide, rfl, rfl, rfl⟩ (xh_IllegalStateException clX6_103) hlk dX6_pack_13 dX6_pack_16 dX6_pack_17 dX6_pack_19 dX6_pack_22 ⟨by decide, by decide, by decide, by decide⟩
def mX6_read (nc : Nat) (a1 : Int32) (μ : gM) : Option (Sum (String × gM) (Int32)) :=
  gBx (mX6_replicaAt nc a1 μ) fun r2 =>
  gChk (r2 < 5 * nc) <|
  if (μ 11 r2 6) = 2 then
    gBp (mX4_canAnswerReads nc r2 (μ 6 0 4) μ) fun r6 =>
    if r6 = 0 then
      some (.inl ("java/lang/UnsupportedOperationException", μ))
    else
      gBp (mX1_resultAt nc r2 (μ 11 r2 9) μ) fun r9 =>
      some (.inr r9)
  else
    some (.inl ("java/lang/IllegalStateException", μ))
set_option maxHeartbeats 4000000 in
set_option maxRecDepth 100000 in
theorem kX6_read (l : Launch) (D : va_G) (tc : Nat → ClassId) (sa : Nat → Nat) (ad : Nat → Nat → Nat) (nc : Nat) (hnc : 0 < nc ∧ nc ≤ 2) (hI : gI (gE_C nc) ad) (a1 : Int32) (μ : gM) (r : Int32) (h : mX6_read nc a1 μ = some (.inr r)) : gMet l yX6_read cX6_read 3 (some .int) ({ frames := 4, cells := 0, slots := 0, locals := 86 } : Room) D (gE_C nc) gkd_C tc ad (grh_C nc) sa [.ref (ad 0 0), .int a1] μ (some (.int r)) μ := by
  refine gMet_of hI ⟨by decide +kernel, Nat.le_of_ble_eq_true rfl⟩ (fun p e s m args below meth c sz hr hlk => ?_)
  unfold mX6_read at h
  show JC p l e ({ frames := 4, cells := 0, slots := 0, locals := 86 } : Room) s m args below meth c cX6_read 3 RX6 D tc sa ad nc sz (some (.int r)) μ μ 0 [(0, .ref (ad 0 0)), (1, .int a1)] []
  refine J_aload_n (i := 0) (q := 0) (pc1 := 1) dX6_read_0 rfl rfl rfl ?_
  refine J_iload_n (i := 1) (q := 1) (pc1 := 2) dX6_read_1 rfl rfl rfl ?_
  obtain ⟨r2, hc1, h⟩ := gBx_r h
  obtain ⟨h3, h⟩ := gChk_s h
  refine J_callV (As := [.int a1]) (ad := ad) (f := 0) (i := 0) (st := []) (st1 := [.ref (ad 11 r2)]) (pc1 := 5) (kX6_replicaAt l D tc sa ad nc hnc hI a1 μ r2 hc1) wcX6_replicaAt wlX6_93 eC0 rfl rfl rfl ⟨rfl, rfl, Nat.le_of_ble_eq_true rfl, Nat.le_of_ble_eq_true rfl⟩ ⟨Nat.zero_le _, Nat.zero_le _⟩ (Nat.le_of_ble_eq_true rfl) dX6_read_2 rfl rfl ?_
  refine J_astore_n (i := 2) (lv1 := [(2, .ref (ad 11 r2)), (0, .ref (ad 0 0)), (1, .int a1)]) (pc1 := 6) dX6_read_5 rfl (by decide) rfl rfl ?_
  refine J_aload_n (i := 2) (q := 0) (pc1 := 7) dX6_read_6 rfl rfl rfl ?_
  refine J_getI (T := TX4) (pc1 := 10) (eC11 h3) rfl rfl inX4 6 (by decide) rfl flX6_130 rfl dX6_read_7 rfl ?_
  refine J_iconst (v := 2) (pc1 := 11) dX6_read_10 (by decide) rfl ?_
  refine J_icmp_eq (tgt := 24) (pc1 := 14) dX6_read_11 (by decide) (fun q4 => ?_) rfl (fun q4 => ?_)
  · rw [if_pos q4] at h
    refine J_aload_n (i := 2) (q := 0) (pc1 := 25) dX6_read_24 rfl rfl rfl ?_
    refine J_aload_n (i := 0) (q := 1) (pc1 := 26) dX6_read_25 rfl rfl rfl ?_
    refine J_getR (T := TX6) (f' := 6) (i' := 0) (pc1 := 29) eC0 rfl rfl inX6 0 (by decide) rfl rfl flX6_12 rfl dX6_read_26 rfl ?_
    refine J_getI (T := TX0) (pc1 := 32) (eC6 hnc.1) rfl rfl inX0 4 (by decide) rfl flX6_60 rfl dX6_read_29 rfl ?_
    obtain ⟨r6, hc5, h⟩ := gBp_s h
    refine J_callV (As := [.int (μ 6 0 4)]) (ad := ad) (f := 11) (i := r2) (st := []) (st1 := [.int r6]) (pc1 := 35) (kX4_canAnswerReads l D tc sa ad nc hnc hI r2 h3 (μ 6 0 4) μ r6 hc5) wcX4_canAnswerReads wlX6_165 (eC11 h3) rfl rfl rfl ⟨rfl, rfl, Nat.le_of_ble_eq_true rfl, Nat.le_of_ble_eq_true rfl⟩ ⟨Nat.zero_le _, Nat.zero_le _⟩ (Nat.le_of_ble_eq_true rfl) dX6_read_32 rfl rfl ?_
    refine J_if_ne (tgt := 48) (pc1 := 38) dX6_read_35 (by decide) (fun q7 => ?_) rfl (fun q7 => ?_)
    · rw [if_neg q7] at h
      refine J_aload_n (i := 2) (q := 0) (pc1 := 49) dX6_read_48 rfl rfl rfl ?_
      refine J_getR (T := TX4) (f' := 12) (i' := r2) (pc1 := 52) (eC11 h3) rfl rfl inX4 1 (by decide) rfl rfl flX6_120 rfl dX6_read_49 rfl ?_
      refine J_aload_n (i := 2) (q := 0) (pc1 := 53) dX6_read_52 rfl rfl rfl ?_
      refine J_getI (T := TX4) (pc1 := 56) (eC11 h3) rfl rfl inX4 9 (by decide) rfl flX6_159 rfl dX6_read_53 rfl ?_
      obtain ⟨r9, hc8, h⟩ := gBp_s h
      refine J_callV (As := [.int (μ 11 r2 9)]) (ad := ad) (f := 12) (i := r2) (st := []) (st1 := [.int r9]) (pc1 := 59) (kX1_resultAt l D tc sa ad nc hnc hI r2 h3 (μ 11 r2 9) μ r9 hc8) wcX1_resultAt wlX6_170 (eC12 h3) rfl rfl rfl ⟨rfl, rfl, Nat.le_of_ble_eq_true rfl, Nat.le_of_ble_eq_true rfl⟩ ⟨Nat.zero_le _, Nat.zero_le _⟩ (Nat.le_of_ble_eq_true rfl) dX6_read_56 rfl rfl ?_
      cases h
      exact J_iret hr hlk dX6_read_59
    · rw [if_pos q7] at h
      cases h
  · rw [if_neg q4] at h
    cases h
set_option maxHeartbeats 4000000 in
set_option maxRecDepth 100000 in
theorem tX6_read (l : Launch) (D : va_G) (tc : Nat → ClassId) (sa : Nat → Nat) (ad : Nat → Nat → Nat) (nc : Nat) (hnc : 0 < nc ∧ nc ≤ 2) (hI : gI (gE_C nc) ad) (a1 : Int32) (μ : gM) (hlz : l.stackTraces = false) (E0 : String) (μ' : gM) (h : mX6_read nc a1 μ = some (.inl (E0, μ'))) : gMetX l yX6_read cX6_read 3 (some .int) ({ frames := 7, cells := 1, slots := 6, locals := 121 } : Room) D (gE_C nc) gkd_C tc ad (grh_C nc) sa [.ref (ad 0 0), .int a1] μ E0 μ' := by
  refine gMetX_of hI ⟨by decide +kernel, Nat.le_of_ble_eq_true rfl⟩ (fun p e s m args below meth c sz hr hlk hT => ?_)
  unfold mX6_read at h
  show JCX p l e ({ frames := 7, cells := 1, slots := 6, locals := 121 } : Room) s m args below meth c cX6_read 3 RX6 D tc sa ad nc sz E0 μ' μ 0 [(0, .ref (ad 0 0)), (1, .int a1)] []
  refine J_aload_n (i := 0) (q := 0) (pc1 := 1) dX6_read_0 rfl rfl rfl ?_
  refine J_iload_n (i := 1) (q := 1) (pc1 := 2) dX6_read_1 rfl rfl rfl ?_
  rcases gBx_l h with hc1 | ⟨r2, hc1, h⟩
  · exact J_callX (As := [.int a1]) (ad := ad) (f := 0) (i := 0) (st := []) hT (tX6_replicaAt l D tc sa ad nc hnc hI a1 μ hlz E0 μ' hc1) wcX6_replicaAt wlX6_93 eC0 rfl rfl rfl ⟨rfl, rfl, Nat.le_of_ble_eq_true rfl, Nat.le_of_ble_eq_true rfl⟩ ⟨by decide, by decide⟩ (Nat.le_of_ble_eq_true rfl) hlk dX6_read_2
  obtain ⟨h3, h⟩ := gChk_s h
  refine J_callV (As := [.int a1]) (ad := ad) (f := 0) (i := 0) (st := []) (st1 := [.ref (ad 11 r2)]) (pc1 := 5) (kX6_replicaAt l D tc sa ad nc hnc hI a1 μ r2 hc1) wcX6_replicaAt wlX6_93 eC0 rfl rfl rfl ⟨rfl, rfl, Nat.le_of_ble_eq_true rfl, Nat.le_of_ble_eq_true rfl⟩ ⟨Nat.zero_le _, Nat.zero_le _⟩ (Nat.le_of_ble_eq_true rfl) dX6_read_2 rfl rfl ?_
  refine J_astore_n (i := 2) (lv1 := [(2, .ref (ad 11 r2)), (0, .ref (ad 0 0)), (1, .int a1)]) (pc1 := 6) dX6_read_5 rfl (by decide) rfl rfl ?_
  refine J_aload_n (i := 2) (q := 0) (pc1 := 7) dX6_read_6 rfl rfl rfl ?_
  refine J_getI (T := TX4) (pc1 := 10) (eC11 h3) rfl rfl inX4 6 (by decide) rfl flX6_130 rfl dX6_read_7 rfl ?_
  refine J_iconst (v := 2) (pc1 := 11) dX6_read_10 (by decide) rfl ?_
  refine J_icmp_eq (tgt := 24) (pc1 := 14) dX6_read_11 (by decide) (fun q4 => ?_) rfl (fun q4 => ?_)
  · rw [if_pos q4] at h
    refine J_aload_n (i := 2) (q := 0) (pc1 := 25) dX6_read_24 rfl rfl rfl ?_
    refine J_aload_n (i := 0) (q := 1) (pc1 := 26) dX6_read_25 rfl rfl rfl ?_
    refine J_getR (T := TX6) (f' := 6) (i' := 0) (pc1 := 29) eC0 rfl rfl inX6 0 (by decide) rfl rfl flX6_12 rfl dX6_read_26 rfl ?_
    refine J_getI (T := TX0) (pc1 := 32) (eC6 hnc.1) rfl rfl inX0 4 (by decide) rfl flX6_60 rfl dX6_read_29 rfl ?_
    obtain ⟨r6, hc5, h⟩ := gBp_s h
    refine J_callV (As := [.int (μ 6 0 4)]) (ad := ad) (f := 11) (i := r2) (st := []) (st1 := [.int r6]) (pc1 := 35) (kX4_canAnswerReads l D tc sa ad nc hnc hI r2 h3 (μ 6 0 4) μ r6 hc5) wcX4_canAnswerReads wlX6_165 (eC11 h3) rfl rfl rfl ⟨rfl, rfl, Nat.le_of_ble_eq_true rfl, Nat.le_of_ble_eq_true rfl⟩ ⟨Nat.zero_le _, Nat.zero_le _⟩ (Nat.le_of_ble_eq_true rfl) dX6_read_32 rfl rfl ?_
    refine J_if_ne (tgt := 48) (pc1 := 38) dX6_read_35 (by decide) (fun q7 => ?_) rfl (fun q7 => ?_)
    · rw [if_neg q7] at h
      refine J_aload_n (i := 2) (q := 0) (pc1 := 49) dX6_read_48 rfl rfl rfl ?_
      refine J_getR (T := TX4) (f' := 12) (i' := r2) (pc1 := 52) (eC11 h3) rfl rfl inX4 1 (by decide) rfl rfl flX6_120 rfl dX6_read_49 rfl ?_
      refine J_aload_n (i := 2) (q := 0) (pc1 := 53) dX6_read_52 rfl rfl rfl ?_
      refine J_getI (T := TX4) (pc1 := 56) (eC11 h3) rfl rfl inX4 9 (by decide) rfl flX6_159 rfl dX6_read_53 rfl ?_
      obtain ⟨r9, hc8, h⟩ := gBp_s h
      refine J_callV (As := [.int (μ 11 r2 9)]) (ad := ad) (f := 12) (i := r2) (st := []) (st1 := [.int r9]) (pc1 := 59) (kX1_resultAt l D tc sa ad nc hnc hI r2 h3 (μ 11 r2 9) μ r9 hc8) wcX1_resultAt wlX6_170 (eC12 h3) rfl rfl rfl ⟨rfl, rfl, Nat.le_of_ble_eq_true rfl, Nat.le_of_ble_eq_true rfl⟩ ⟨Nat.zero_le _, Nat.zero_le _⟩ (Nat.le_of_ble_eq_true rfl) dX6_read_56 rfl rfl ?_
      cases h
    · rw [if_pos q7] at h
      cases h
      exact J_throwS (i := 10) (text := jsT 10) hlz hT xf_UnsupportedOperationException clX6_139 ini_UnsupportedOperationException ⟨by decide, rfl, rfl, rfl⟩ (xh_UnsupportedOperationException clX6_139) hlk dX6_read_38 dX6_read_41 dX6_read_42 dX6_read_44 dX6_read_47 ⟨by decide, by decide, by decide, by decide⟩
  · rw [if_neg q4] at h
    cases h
    exact J_throwS (i := 7) (text := jsT 7) hlz hT xf_IllegalStateException clX6_103 ini_IllegalStateException ⟨by decide, rfl, rfl, rfl⟩ (xh_IllegalStateException clX6_103) hlk dX6_read_14 dX6_read_17 dX6_read_18 dX6_read_20 dX6_read_23 ⟨by decide, by decide, by decide, by decide⟩
def mX6_node (nc : Nat) (a1 : Int32) (a2 : Int32) (μ : gM) : Option (Sum (String × gM) (Int32)) :=
  gBx (mX6_replicaAt nc a1 μ) fun r2 =>
  gChk (r2 < 5 * nc) <|
  gJon (fun (u5 : Unit) =>
      some (.inl ("java/lang/IllegalArgumentException", μ))) fun j4 =>
  if a2 < 0 then
    j4 () 
  else
    if a2 ≤ 13 then
      if a2 = 0 then
        if (μ 11 r2 5) = 0 then
          some (.inr 0)
        else
          some (.inr 1)
      else if a2 = 1 then
        some (.inr (μ 11 r2 6))
      else if a2 = 2 then
        some (.inr (μ 11 r2 7))
      else if a2 = 3 then
        some (.inr (μ 11 r2 8))
      else if a2 = 4 then
        some (.inr (μ 11 r2 9))
      else if a2 = 5 then
        gBp (mX1_lastIndex nc r2 μ) fun r16 =>
        some (.inr r16)
      else if a2 = 6 then
        gBp (mX1_lastTerm nc r2 μ) fun r19 =>
        some (.inr r19)
      else if a2 = 7 then
        some (.inr (μ 12 r2 4))
      else if a2 = 8 then
        gBp (mX1_resultAt nc r2 (μ 11 r2 9) μ) fun r23 =>
        some (.inr r23)
      else if a2 = 9 then
        some (.inr (μ 11 r2 10))
      else if a2 = 10 then
        some (.inr (μ 12 r2 10))
      else if a2 = 11 then
        some (.inr (μ 12 r2 11))
      else if a2 = 12 then
        gBp (mX4_lease nc r2 (μ 6 0 4) μ) fun r29 =>
        some (.inr r29)
      else 
        gLet (α := Int32) (if (μ 11 r2 6) = 1 then μ 11 r2 11 else 0) fun x30 =>
        some (.inr x30)
    else
      j4 () 
set_option maxHeartbeats 4000000 in
set_option maxRecDepth 100000 in
theorem kX6_node (l : Launch) (D : va_G) (tc : Nat → ClassId) (sa : Nat → Nat) (ad : Nat → Nat → Nat) (nc : Nat) (hnc : 0 < nc ∧ nc ≤ 2) (hI : gI (gE_C nc) ad) (a1 : Int32) (a2 : Int32) (μ : gM) (r : Int32) (h : mX6_node nc a1 a2 μ = some (.inr r)) : gMet l yX6_node cX6_node 4 (some .int) ({ frames := 3, cells := 0, slots := 0, locals := 65 } : Room) D (gE_C nc) gkd_C tc ad (grh_C nc) sa [.ref (ad 0 0), .int a1, .int a2] μ (some (.int r)) μ := by
  refine gMet_of hI ⟨by decide +kernel, Nat.le_of_ble_eq_true rfl⟩ (fun p e s m args below meth c sz hr hlk => ?_)
  unfold mX6_node at h
  show JC p l e ({ frames := 3, cells := 0, slots := 0, locals := 65 } : Room) s m args below meth c cX6_node 4 RX6 D tc sa ad nc sz (some (.int r)) μ μ 0 [(0, .ref (ad 0 0)), (1, .int a1), (2, .int a2)] []
  refine J_aload_n (i := 0) (q := 0) (pc1 := 1) dX6_node_0 rfl rfl rfl ?_
  refine J_iload_n (i := 1) (q := 1) (pc1 := 2) dX6_node_1 rfl rfl rfl ?_
  obtain ⟨r2, hc1, h⟩ := gBx_r h
  obtain ⟨h3, h⟩ := gChk_s h
  refine J_callV (As := [.int a1]) (ad := ad) (f := 0) (i := 0) (st := []) (st1 := [.ref (ad 11 r2)]) (pc1 := 5) (kX6_replicaAt l D tc sa ad nc hnc hI a1 μ r2 hc1) wcX6_replicaAt wlX6_93 eC0 rfl rfl rfl ⟨rfl, rfl, Nat.le_of_ble_eq_true rfl, Nat.le_of_ble_eq_true rfl⟩ ⟨Nat.zero_le _, Nat.zero_le _⟩ (Nat.le_of_ble_eq_true rfl) dX6_node_2 rfl rfl ?_
  refine J_astore_n (i := 3) (lv1 := [(3, .ref (ad 11 r2)), (0, .ref (ad 0 0)), (1, .int a1), (2, .int a2)]) (pc1 := 6) dX6_node_5 rfl (by decide) rfl rfl ?_
  refine J_iload_n (i := 2) (q := 3) (pc1 := 7) dX6_node_6 rfl rfl rfl ?_
  obtain ⟨j4, ej4, h⟩ := gJon_s h
  have kj4 : ∀ (u5 : Unit), j4 u5 = some (.inr r) → JC p l e ({ frames := 3, cells := 0, slots := 0, locals := 65 } : Room) s m args below meth c cX6_node 4 RX6 D tc sa ad nc sz (some (.int r)) μ μ 16 [] [] := by
    intro u5 h
    rw [ej4] at h
    try dsimp only at h
    cases h
  clear ej4
  refine J_if_lt (tgt := 16) (pc1 := 10) dX6_node_7 (by decide) (fun q6 => ?_) rfl (fun q6 => ?_)
  · rw [if_pos q6] at h
    refine J_sub [] (lv1 := []) rfl ?_
    exact kj4 ()  h
  · rw [if_neg q6] at h
    refine J_iload_n (i := 2) (q := 3) (pc1 := 11) dX6_node_10 rfl rfl rfl ?_
    refine J_bipush (v := 13) (pc1 := 13) dX6_node_11 (by decide) rfl ?_
    refine J_icmp_le (tgt := 26) (pc1 := 16) dX6_node_13 (by decide) (fun q7 => ?_) rfl (fun q7 => ?_)
    · rw [if_pos q7] at h
      refine J_iload_n (i := 2) (q := 3) (pc1 := 27) dX6_node_26 rfl rfl rfl ?_
      by_cases q8 : a2 = 0
      · rw [if_pos q8] at h
        refine J_swIn (v := 0) (off := 65) (tgt := 92) dX6_node_27 q8 (by decide) ?_
        refine J_aload_n (i := 3) (q := 0) (pc1 := 93) dX6_node_92 rfl rfl rfl ?_
        refine J_getI (T := TX4) (pc1 := 96) (eC11 h3) rfl rfl inX4 5 (by decide) rfl flX6_97 rfl dX6_node_93 rfl ?_
        refine J_if_eq (tgt := 103) (pc1 := 99) dX6_node_96 (by decide) (fun q9 => ?_) rfl (fun q9 => ?_)
        · rw [if_pos q9] at h
          refine J_iconst (v := 0) (pc1 := 104) dX6_node_103 (by decide) rfl ?_
          cases h
          exact J_iret hr hlk dX6_node_104
        · rw [if_neg q9] at h
          refine J_iconst (v := 1) (pc1 := 100) dX6_node_99 (by decide) rfl ?_
          refine J_goto (tgt := 104) dX6_node_100 (by decide) ?_
          cases h
          exact J_iret hr hlk dX6_node_104
      rw [if_neg q8] at h
      by_cases q10 : a2 = 1
      · rw [if_pos q10] at h
        refine J_swIn (v := 1) (off := 78) (tgt := 105) dX6_node_27 q10 (by decide) ?_
        refine J_aload_n (i := 3) (q := 0) (pc1 := 106) dX6_node_105 rfl rfl rfl ?_
        refine J_getI (T := TX4) (pc1 := 109) (eC11 h3) rfl rfl inX4 6 (by decide) rfl flX6_130 rfl dX6_node_106 rfl ?_
        cases h
        exact J_iret hr hlk dX6_node_109
      rw [if_neg q10] at h
      by_cases q11 : a2 = 2
      · rw [if_pos q11] at h
        refine J_swIn (v := 2) (off := 83) (tgt := 110) dX6_node_27 q11 (by decide) ?_
        refine J_aload_n (i := 3) (q := 0) (pc1 := 111) dX6_node_110 rfl rfl rfl ?_
        refine J_getI (T := TX4) (pc1 := 114) (eC11 h3) rfl rfl inX4 7 (by decide) rfl flX6_111 rfl dX6_node_111 rfl ?_
        cases h
        exact J_iret hr hlk dX6_node_114
      rw [if_neg q11] at h
      by_cases q12 : a2 = 3
      · rw [if_pos q12] at h
        refine J_swIn (v := 3) (off := 88) (tgt := 115) dX6_node_27 q12 (by decide) ?_
        refine J_aload_n (i := 3) (q := 0) (pc1 := 116) dX6_node_115 rfl rfl rfl ?_
        refine J_getI (T := TX4) (pc1 := 119) (eC11 h3) rfl rfl inX4 8 (by decide) rfl flX6_175 rfl dX6_node_116 rfl ?_
        cases h
        exact J_iret hr hlk dX6_node_119
      rw [if_neg q12] at h
      by_cases q13 : a2 = 4
      · rw [if_pos q13] at h
        refine J_swIn (v := 4) (off := 93) (tgt := 120) dX6_node_27 q13 (by decide) ?_
        refine J_aload_n (i := 3) (q := 0) (pc1 := 121) dX6_node_120 rfl rfl rfl ?_
        refine J_getI (T := TX4) (pc1 := 124) (eC11 h3) rfl rfl inX4 9 (by decide) rfl flX6_159 rfl dX6_node_121 rfl ?_
        cases h
        exact J_iret hr hlk dX6_node_124
      rw [if_neg q13] at h
      by_cases q14 : a2 = 5
      · rw [if_pos q14] at h
        refine J_swIn (v := 5) (off := 98) (tgt := 125) dX6_node_27 q14 (by decide) ?_
        refine J_aload_n (i := 3) (q := 0) (pc1 := 126) dX6_node_125 rfl rfl rfl ?_
        refine J_getR (T := TX4) (f' := 12) (i' := r2) (pc1 := 129) (eC11 h3) rfl rfl inX4 1 (by decide) rfl rfl flX6_120 rfl dX6_node_126 rfl ?_
        obtain ⟨r16, hc15, h⟩ := gBp_s h
        refine J_callV (As := []) (ad := ad) (f := 12) (i := r2) (st := []) (st1 := [.int r16]) (pc1 := 132) (kX1_lastIndex l D tc sa ad nc hnc hI r2 h3 μ r16 hc15) wcX1_lastIndex wlX6_124 (eC12 h3) rfl rfl rfl ⟨rfl, rfl, Nat.le_of_ble_eq_true rfl, Nat.le_of_ble_eq_true rfl⟩ ⟨Nat.zero_le _, Nat.zero_le _⟩ (Nat.le_of_ble_eq_true rfl) dX6_node_129 rfl rfl ?_
        cases h
        exact J_iret hr hlk dX6_node_132
      rw [if_neg q14] at h
      by_cases q17 : a2 = 6
      · rw [if_pos q17] at h
        refine J_swIn (v := 6) (off := 106) (tgt := 133) dX6_node_27 q17 (by decide) ?_
        refine J_aload_n (i := 3) (q := 0) (pc1 := 134) dX6_node_133 rfl rfl rfl ?_
        refine J_getR (T := TX4) (f' := 12) (i' := r2) (pc1 := 137) (eC11 h3) rfl rfl inX4 1 (by decide) rfl rfl flX6_120 rfl dX6_node_134 rfl ?_
        obtain ⟨r19, hc18, h⟩ := gBp_s h
        refine J_callV (As := []) (ad := ad) (f := 12) (i := r2) (st := []) (st1 := [.int r19]) (pc1 := 140) (kX1_lastTerm l D tc sa ad nc hnc hI r2 h3 μ r19 hc18) wcX1_lastTerm wlX6_178 (eC12 h3) rfl rfl rfl ⟨rfl, rfl, Nat.le_of_ble_eq_true rfl, Nat.le_of_ble_eq_true rfl⟩ ⟨Nat.zero_le _, Nat.zero_le _⟩ (Nat.le_of_ble_eq_true rfl) dX6_node_137 rfl rfl ?_
        cases h
        exact J_iret hr hlk dX6_node_140
      rw [if_neg q17] at h
      by_cases q20 : a2 = 7
      · rw [if_pos q20] at h
        refine J_swIn (v := 7) (off := 114) (tgt := 141) dX6_node_27 q20 (by decide) ?_
        refine J_aload_n (i := 3) (q := 0) (pc1 := 142) dX6_node_141 rfl rfl rfl ?_
        refine J_getR (T := TX4) (f' := 12) (i' := r2) (pc1 := 145) (eC11 h3) rfl rfl inX4 1 (by decide) rfl rfl flX6_120 rfl dX6_node_142 rfl ?_
        refine J_getI (T := TX1) (pc1 := 148) (eC12 h3) rfl rfl inX1 4 (by decide) rfl flX6_181 rfl dX6_node_145 rfl ?_
        cases h
        exact J_iret hr hlk dX6_node_148
      rw [if_neg q20] at h
      by_cases q21 : a2 = 8
      · rw [if_pos q21] at h
        refine J_swIn (v := 8) (off := 122) (tgt := 149) dX6_node_27 q21 (by decide) ?_
        refine J_aload_n (i := 3) (q := 0) (pc1 := 150) dX6_node_149 rfl rfl rfl ?_
        refine J_getR (T := TX4) (f' := 12) (i' := r2) (pc1 := 153) (eC11 h3) rfl rfl inX4 1 (by decide) rfl rfl flX6_120 rfl dX6_node_150 rfl ?_
        refine J_aload_n (i := 3) (q := 0) (pc1 := 154) dX6_node_153 rfl rfl rfl ?_
        refine J_getI (T := TX4) (pc1 := 157) (eC11 h3) rfl rfl inX4 9 (by decide) rfl flX6_159 rfl dX6_node_154 rfl ?_
        obtain ⟨r23, hc22, h⟩ := gBp_s h
        refine J_callV (As := [.int (μ 11 r2 9)]) (ad := ad) (f := 12) (i := r2) (st := []) (st1 := [.int r23]) (pc1 := 160) (kX1_resultAt l D tc sa ad nc hnc hI r2 h3 (μ 11 r2 9) μ r23 hc22) wcX1_resultAt wlX6_170 (eC12 h3) rfl rfl rfl ⟨rfl, rfl, Nat.le_of_ble_eq_true rfl, Nat.le_of_ble_eq_true rfl⟩ ⟨Nat.zero_le _, Nat.zero_le _⟩ (Nat.le_of_ble_eq_true rfl) dX6_node_157 rfl rfl ?_
        cases h
        exact J_iret hr hlk dX6_node_160
      rw [if_neg q21] at h
      by_cases q24 : a2 = 9
      · rw [if_pos q24] at h
        refine J_swIn (v := 9) (off := 134) (tgt := 161) dX6_node_27 q24 (by decide) ?_
        refine J_aload_n (i := 3) (q := 0) (pc1 := 162) dX6_node_161 rfl rfl rfl ?_
        refine J_getI (T := TX4) (pc1 := 165) (eC11 h3) rfl rfl inX4 10 (by decide) rfl flX6_184 rfl dX6_node_162 rfl ?_
        cases h
        exact J_iret hr hlk dX6_node_165
      rw [if_neg q24] at h
      by_cases q25 : a2 = 10
      · rw [if_pos q25] at h
        refine J_swIn (v := 10) (off := 139) (tgt := 166) dX6_node_27 q25 (by decide) ?_
        refine J_aload_n (i := 3) (q := 0) (pc1 := 167) dX6_node_166 rfl rfl rfl ?_
        refine J_getR (T := TX4) (f' := 12) (i' := r2) (pc1 := 170) (eC11 h3) rfl rfl inX4 1 (by decide) rfl rfl flX6_120 rfl dX6_node_167 rfl ?_
        refine J_getI (T := TX1) (pc1 := 173) (eC12 h3) rfl rfl inX1 10 (by decide) rfl flX6_187 rfl dX6_node_170 rfl ?_
        cases h
        exact J_iret hr hlk dX6_node_173
      rw [if_neg q25] at h
      by_cases q26 : a2 = 11
      · rw [if_pos q26] at h
        refine J_swIn (v := 11) (off := 147) (tgt := 174) dX6_node_27 q26 (by decide) ?_
        refine J_aload_n (i := 3) (q := 0) (pc1 := 175) dX6_node_174 rfl rfl rfl ?_
        refine J_getR (T := TX4) (f' := 12) (i' := r2) (pc1 := 178) (eC11 h3) rfl rfl inX4 1 (by decide) rfl rfl flX6_120 rfl dX6_node_175 rfl ?_
        refine J_getI (T := TX1) (pc1 := 181) (eC12 h3) rfl rfl inX1 11 (by decide) rfl flX6_156 rfl dX6_node_178 rfl ?_
        cases h
        exact J_iret hr hlk dX6_node_181
      rw [if_neg q26] at h
      by_cases q27 : a2 = 12
      · rw [if_pos q27] at h
        refine J_swIn (v := 12) (off := 155) (tgt := 182) dX6_node_27 q27 (by decide) ?_
        refine J_aload_n (i := 3) (q := 0) (pc1 := 183) dX6_node_182 rfl rfl rfl ?_
        refine J_aload_n (i := 0) (q := 1) (pc1 := 184) dX6_node_183 rfl rfl rfl ?_
        refine J_getR (T := TX6) (f' := 6) (i' := 0) (pc1 := 187) eC0 rfl rfl inX6 0 (by decide) rfl rfl flX6_12 rfl dX6_node_184 rfl ?_
        refine J_getI (T := TX0) (pc1 := 190) (eC6 hnc.1) rfl rfl inX0 4 (by decide) rfl flX6_60 rfl dX6_node_187 rfl ?_
        obtain ⟨r29, hc28, h⟩ := gBp_s h
        refine J_callV (As := [.int (μ 6 0 4)]) (ad := ad) (f := 11) (i := r2) (st := []) (st1 := [.int r29]) (pc1 := 193) (kX4_lease l D tc sa ad nc hnc hI r2 h3 (μ 6 0 4) μ r29 hc28) wcX4_lease wlX6_190 (eC11 h3) rfl rfl rfl ⟨rfl, rfl, Nat.le_of_ble_eq_true rfl, Nat.le_of_ble_eq_true rfl⟩ ⟨Nat.zero_le _, Nat.zero_le _⟩ (Nat.le_of_ble_eq_true rfl) dX6_node_190 rfl rfl ?_
        cases h
        exact J_iret hr hlk dX6_node_193
      rw [if_neg q27] at h
      refine J_swOut (tgt := 194) dX6_node_27 (by have := i32_ne (k := 0) q8 (by decide); have := i32_ne (k := 1) q10 (by decide); have := i32_ne (k := 2) q11 (by decide); have := i32_ne (k := 3) q12 (by decide); have := i32_ne (k := 4) q13 (by decide); have := i32_ne (k := 5) q14 (by decide); have := i32_ne (k := 6) q17 (by decide); have := i32_ne (k := 7) q20 (by decide); have := i32_ne (k := 8) q21 (by decide); have := i32_ne (k := 9) q24 (by decide); have := i32_ne (k := 10) q25 (by decide); have := i32_ne (k := 11) q26 (by decide); have := i32_ne (k := 12) q27 (by decide); omega) (by decide) ?_
      refine J_aload_n (i := 3) (q := 0) (pc1 := 195) dX6_node_194 rfl rfl rfl ?_
      refine J_getI (T := TX4) (pc1 := 198) (eC11 h3) rfl rfl inX4 6 (by decide) rfl flX6_130 rfl dX6_node_195 rfl ?_
      refine J_iconst (v := 1) (pc1 := 199) dX6_node_198 (by decide) rfl ?_
      obtain ⟨x30, e31, h⟩ := gLet_s h
      have k32 : JC p l e ({ frames := 3, cells := 0, slots := 0, locals := 65 } : Room) s m args below meth c cX6_node 4 RX6 D tc sa ad nc sz (some (.int r)) μ μ 210 [(3, .ref (ad 11 r2)), (0, .ref (ad 0 0)), (1, .int a1), (2, .int a2)] [.int x30] := by
        cases h
        exact J_iret hr hlk dX6_node_210
      refine J_icmp_ne (tgt := 209) (pc1 := 202) dX6_node_199 (by decide) (fun q33 => ?_) rfl (fun q33 => ?_)
      · rw [if_neg q33] at e31
        subst e31
        refine J_iconst (v := 0) (pc1 := 210) dX6_node_209 (by decide) rfl ?_
        exact k32
      · rw [if_pos q33] at e31
        subst e31
        refine J_aload_n (i := 3) (q := 0) (pc1 := 203) dX6_node_202 rfl rfl rfl ?_
        refine J_getI (T := TX4) (pc1 := 206) (eC11 h3) rfl rfl inX4 11 (by decide) rfl flX6_193 rfl dX6_node_203 rfl ?_
        refine J_goto (tgt := 210) dX6_node_206 (by decide) ?_
        exact k32
    · rw [if_neg q7] at h
      refine J_sub [] (lv1 := []) rfl ?_
      exact kj4 ()  h
set_option maxHeartbeats 4000000 in
set_option maxRecDepth 100000 in
theorem tX6_node (l : Launch) (D : va_G) (tc : Nat → ClassId) (sa : Nat → Nat) (ad : Nat → Nat → Nat) (nc : Nat) (hnc : 0 < nc ∧ nc ≤ 2) (hI : gI (gE_C nc) ad) (a1 : Int32) (a2 : Int32) (μ : gM) (hlz : l.stackTraces = false) (E0 : String) (μ' : gM) (h : mX6_node nc a1 a2 μ = some (.inl (E0, μ'))) : gMetX l yX6_node cX6_node 4 (some .int) ({ frames := 7, cells := 1, slots := 6, locals := 121 } : Room) D (gE_C nc) gkd_C tc ad (grh_C nc) sa [.ref (ad 0 0), .int a1, .int a2] μ E0 μ' := by
  refine gMetX_of hI ⟨by decide +kernel, Nat.le_of_ble_eq_true rfl⟩ (fun p e s m args below meth c sz hr hlk hT => ?_)
  unfold mX6_node at h
  show JCX p l e ({ frames := 7, cells := 1, slots := 6, locals := 121 } : Room) s m args below meth c cX6_node 4 RX6 D tc sa ad nc sz E0 μ' μ 0 [(0, .ref (ad 0 0)), (1, .int a1), (2, .int a2)] []
  refine J_aload_n (i := 0) (q := 0) (pc1 := 1) dX6_node_0 rfl rfl rfl ?_
  refine J_iload_n (i := 1) (q := 1) (pc1 := 2) dX6_node_1 rfl rfl rfl ?_
  rcases gBx_l h with hc1 | ⟨r2, hc1, h⟩
  · exact J_callX (As := [.int a1]) (ad := ad) (f := 0) (i := 0) (st := []) hT (tX6_replicaAt l D tc sa ad nc hnc hI a1 μ hlz E0 μ' hc1) wcX6_replicaAt wlX6_93 eC0 rfl rfl rfl ⟨rfl, rfl, Nat.le_of_ble_eq_true rfl, Nat.le_of_ble_eq_true rfl⟩ ⟨by decide, by decide⟩ (Nat.le_of_ble_eq_true rfl) hlk dX6_node_2
  obtain ⟨h3, h⟩ := gChk_s h
  refine J_callV (As := [.int a1]) (ad := ad) (f := 0) (i := 0) (st := []) (st1 := [.ref (ad 11 r2)]) (pc1 := 5) (kX6_replicaAt l D tc sa ad nc hnc hI a1 μ r2 hc1) wcX6_replicaAt wlX6_93 eC0 rfl rfl rfl ⟨rfl, rfl, Nat.le_of_ble_eq_true rfl, Nat.le_of_ble_eq_true rfl⟩ ⟨Nat.zero_le _, Nat.zero_le _⟩ (Nat.le_of_ble_eq_true rfl) dX6_node_2 rfl rfl ?_
  refine J_astore_n (i := 3) (lv1 := [(3, .ref (ad 11 r2)), (0, .ref (ad 0 0)), (1, .int a1), (2, .int a2)]) (pc1 := 6) dX6_node_5 rfl (by decide) rfl rfl ?_
  refine J_iload_n (i := 2) (q := 3) (pc1 := 7) dX6_node_6 rfl rfl rfl ?_
  obtain ⟨j4, ej4, h⟩ := gJon_s h
  have kj4 : ∀ (u5 : Unit), j4 u5 = some (.inl (E0, μ')) → JCX p l e ({ frames := 7, cells := 1, slots := 6, locals := 121 } : Room) s m args below meth c cX6_node 4 RX6 D tc sa ad nc sz E0 μ' μ 16 [] [] := by
    intro u5 h
    rw [ej4] at h
    try dsimp only at h
    cases h
    exact J_throwS (i := 11) (text := jsT 11) hlz hT xf_IllegalArgumentException clX6_38 ini_IllegalArgumentException ⟨by decide, rfl, rfl, rfl⟩ (xh_IllegalArgumentException clX6_38) hlk dX6_node_16 dX6_node_19 dX6_node_20 dX6_node_22 dX6_node_25 ⟨by decide, by decide, by decide, by decide⟩
  clear ej4
  refine J_if_lt (tgt := 16) (pc1 := 10) dX6_node_7 (by decide) (fun q6 => ?_) rfl (fun q6 => ?_)
  · rw [if_pos q6] at h
    refine J_sub [] (lv1 := []) rfl ?_
    exact kj4 ()  h
  · rw [if_neg q6] at h
    refine J_iload_n (i := 2) (q := 3) (pc1 := 11) dX6_node_10 rfl rfl rfl ?_
    refine J_bipush (v := 13) (pc1 := 13) dX6_node_11 (by decide) rfl ?_
    refine J_icmp_le (tgt := 26) (pc1 := 16) dX6_node_13 (by decide) (fun q7 => ?_) rfl (fun q7 => ?_)
    · rw [if_pos q7] at h
      refine J_iload_n (i := 2) (q := 3) (pc1 := 27) dX6_node_26 rfl rfl rfl ?_
      by_cases q8 : a2 = 0
      · rw [if_pos q8] at h
        refine J_swIn (v := 0) (off := 65) (tgt := 92) dX6_node_27 q8 (by decide) ?_
        refine J_aload_n (i := 3) (q := 0) (pc1 := 93) dX6_node_92 rfl rfl rfl ?_
        refine J_getI (T := TX4) (pc1 := 96) (eC11 h3) rfl rfl inX4 5 (by decide) rfl flX6_97 rfl dX6_node_93 rfl ?_
        refine J_if_eq (tgt := 103) (pc1 := 99) dX6_node_96 (by decide) (fun q9 => ?_) rfl (fun q9 => ?_)
        · rw [if_pos q9] at h
          refine J_iconst (v := 0) (pc1 := 104) dX6_node_103 (by decide) rfl ?_
          cases h
        · rw [if_neg q9] at h
          refine J_iconst (v := 1) (pc1 := 100) dX6_node_99 (by decide) rfl ?_
          refine J_goto (tgt := 104) dX6_node_100 (by decide) ?_
          cases h
      rw [if_neg q8] at h
      by_cases q10 : a2 = 1
      · rw [if_pos q10] at h
        refine J_swIn (v := 1) (off := 78) (tgt := 105) dX6_node_27 q10 (by decide) ?_
        refine J_aload_n (i := 3) (q := 0) (pc1 := 106) dX6_node_105 rfl rfl rfl ?_
        refine J_getI (T := TX4) (pc1 := 109) (eC11 h3) rfl rfl inX4 6 (by decide) rfl flX6_130 rfl dX6_node_106 rfl ?_
        cases h
      rw [if_neg q10] at h
      by_cases q11 : a2 = 2
      · rw [if_pos q11] at h
        refine J_swIn (v := 2) (off := 83) (tgt := 110) dX6_node_27 q11 (by decide) ?_
        refine J_aload_n (i := 3) (q := 0) (pc1 := 111) dX6_node_110 rfl rfl rfl ?_
        refine J_getI (T := TX4) (pc1 := 114) (eC11 h3) rfl rfl inX4 7 (by decide) rfl flX6_111 rfl dX6_node_111 rfl ?_
        cases h
      rw [if_neg q11] at h
      by_cases q12 : a2 = 3
      · rw [if_pos q12] at h
        refine J_swIn (v := 3) (off := 88) (tgt := 115) dX6_node_27 q12 (by decide) ?_
        refine J_aload_n (i := 3) (q := 0) (pc1 := 116) dX6_node_115 rfl rfl rfl ?_
        refine J_getI (T := TX4) (pc1 := 119) (eC11 h3) rfl rfl inX4 8 (by decide) rfl flX6_175 rfl dX6_node_116 rfl ?_
        cases h
      rw [if_neg q12] at h
      by_cases q13 : a2 = 4
      · rw [if_pos q13] at h
        refine J_swIn (v := 4) (off := 93) (tgt := 120) dX6_node_27 q13 (by decide) ?_
        refine J_aload_n (i := 3) (q := 0) (pc1 := 121) dX6_node_120 rfl rfl rfl ?_
        refine J_getI (T := TX4) (pc1 := 124) (eC11 h3) rfl rfl inX4 9 (by decide) rfl flX6_159 rfl dX6_node_121 rfl ?_
        cases h
      rw [if_neg q13] at h
      by_cases q14 : a2 = 5
      · rw [if_pos q14] at h
        refine J_swIn (v := 5) (off := 98) (tgt := 125) dX6_node_27 q14 (by decide) ?_
        refine J_aload_n (i := 3) (q := 0) (pc1 := 126) dX6_node_125 rfl rfl rfl ?_
        refine J_getR (T := TX4) (f' := 12) (i' := r2) (pc1 := 129) (eC11 h3) rfl rfl inX4 1 (by decide) rfl rfl flX6_120 rfl dX6_node_126 rfl ?_
        obtain ⟨r16, hc15, h⟩ := gBp_s h
        refine J_callV (As := []) (ad := ad) (f := 12) (i := r2) (st := []) (st1 := [.int r16]) (pc1 := 132) (kX1_lastIndex l D tc sa ad nc hnc hI r2 h3 μ r16 hc15) wcX1_lastIndex wlX6_124 (eC12 h3) rfl rfl rfl ⟨rfl, rfl, Nat.le_of_ble_eq_true rfl, Nat.le_of_ble_eq_true rfl⟩ ⟨Nat.zero_le _, Nat.zero_le _⟩ (Nat.le_of_ble_eq_true rfl) dX6_node_129 rfl rfl ?_
        cases h
      rw [if_neg q14] at h
      by_cases q17 : a2 = 6
      · rw [if_pos q17] at h
        refine J_swIn (v := 6) (off := 106) (tgt := 133) dX6_node_27 q17 (by decide) ?_
        refine J_aload_n (i := 3) (q := 0) (pc1 := 134) dX6_node_133 rfl rfl rfl ?_
        refine J_getR (T := TX4) (f' := 12) (i' := r2) (pc1 := 137) (eC11 h3) rfl rfl inX4 1 (by decide) rfl rfl flX6_120 rfl dX6_node_134 rfl ?_
        obtain ⟨r19, hc18, h⟩ := gBp_s h
        refine J_callV (As := []) (ad := ad) (f := 12) (i := r2) (st := []) (st1 := [.int r19]) (pc1 := 140) (kX1_lastTerm l D tc sa ad nc hnc hI r2 h3 μ r19 hc18) wcX1_lastTerm wlX6_178 (eC12 h3) rfl rfl rfl ⟨rfl, rfl, Nat.le_of_ble_eq_true rfl, Nat.le_of_ble_eq_true rfl⟩ ⟨Nat.zero_le _, Nat.zero_le _⟩ (Nat.le_of_ble_eq_true rfl) dX6_node_137 rfl rfl ?_
        cases h
      rw [if_neg q17] at h
      by_cases q20 : a2 = 7
      · rw [if_pos q20] at h
        refine J_swIn (v := 7) (off := 114) (tgt := 141) dX6_node_27 q20 (by decide) ?_
        refine J_aload_n (i := 3) (q := 0) (pc1 := 142) dX6_node_141 rfl rfl rfl ?_
        refine J_getR (T := TX4) (f' := 12) (i' := r2) (pc1 := 145) (eC11 h3) rfl rfl inX4 1 (by decide) rfl rfl flX6_120 rfl dX6_node_142 rfl ?_
        refine J_getI (T := TX1) (pc1 := 148) (eC12 h3) rfl rfl inX1 4 (by decide) rfl flX6_181 rfl dX6_node_145 rfl ?_
        cases h
      rw [if_neg q20] at h
      by_cases q21 : a2 = 8
      · rw [if_pos q21] at h
        refine J_swIn (v := 8) (off := 122) (tgt := 149) dX6_node_27 q21 (by decide) ?_
        refine J_aload_n (i := 3) (q := 0) (pc1 := 150) dX6_node_149 rfl rfl rfl ?_
        refine J_getR (T := TX4) (f' := 12) (i' := r2) (pc1 := 153) (eC11 h3) rfl rfl inX4 1 (by decide) rfl rfl flX6_120 rfl dX6_node_150 rfl ?_
        refine J_aload_n (i := 3) (q := 0) (pc1 := 154) dX6_node_153 rfl rfl rfl ?_
        refine J_getI (T := TX4) (pc1 := 157) (eC11 h3) rfl rfl inX4 9 (by decide) rfl flX6_159 rfl dX6_node_154 rfl ?_
        obtain ⟨r23, hc22, h⟩ := gBp_s h
        refine J_callV (As := [.int (μ 11 r2 9)]) (ad := ad) (f := 12) (i := r2) (st := []) (st1 := [.int r23]) (pc1 := 160) (kX1_resultAt l D tc sa ad nc hnc hI r2 h3 (μ 11 r2 9) μ r23 hc22) wcX1_resultAt wlX6_170 (eC12 h3) rfl rfl rfl ⟨rfl, rfl, Nat.le_of_ble_eq_true rfl, Nat.le_of_ble_eq_true rfl⟩ ⟨Nat.zero_le _, Nat.zero_le _⟩ (Nat.le_of_ble_eq_true rfl) dX6_node_157 rfl rfl ?_
        cases h
      rw [if_neg q21] at h
      by_cases q24 : a2 = 9
      · rw [if_pos q24] at h
        refine J_swIn (v := 9) (off := 134) (tgt := 161) dX6_node_27 q24 (by decide) ?_
        refine J_aload_n (i := 3) (q := 0) (pc1 := 162) dX6_node_161 rfl rfl rfl ?_
        refine J_getI (T := TX4) (pc1 := 165) (eC11 h3) rfl rfl inX4 10 (by decide) rfl flX6_184 rfl dX6_node_162 rfl ?_
        cases h
      rw [if_neg q24] at h
      by_cases q25 : a2 = 10
      · rw [if_pos q25] at h
        refine J_swIn (v := 10) (off := 139) (tgt := 166) dX6_node_27 q25 (by decide) ?_
        refine J_aload_n (i := 3) (q := 0) (pc1 := 167) dX6_node_166 rfl rfl rfl ?_
        refine J_getR (T := TX4) (f' := 12) (i' := r2) (pc1 := 170) (eC11 h3) rfl rfl inX4 1 (by decide) rfl rfl flX6_120 rfl dX6_node_167 rfl ?_
        refine J_getI (T := TX1) (pc1 := 173) (eC12 h3) rfl rfl inX1 10 (by decide) rfl flX6_187 rfl dX6_node_170 rfl ?_
        cases h
      rw [if_neg q25] at h
      by_cases q26 : a2 = 11
      · rw [if_pos q26] at h
        refine J_swIn (v := 11) (off := 147) (tgt := 174) dX6_node_27 q26 (by decide) ?_
        refine J_aload_n (i := 3) (q := 0) (pc1 := 175) dX6_node_174 rfl rfl rfl ?_
        refine J_getR (T := TX4) (f' := 12) (i' := r2) (pc1 := 178) (eC11 h3) rfl rfl inX4 1 (by decide) rfl rfl flX6_120 rfl dX6_node_175 rfl ?_
        refine J_getI (T := TX1) (pc1 := 181) (eC12 h3) rfl rfl inX1 11 (by decide) rfl flX6_156 rfl dX6_node_178 rfl ?_
        cases h
      rw [if_neg q26] at h
      by_cases q27 : a2 = 12
      · rw [if_pos q27] at h
        refine J_swIn (v := 12) (off := 155) (tgt := 182) dX6_node_27 q27 (by decide) ?_
        refine J_aload_n (i := 3) (q := 0) (pc1 := 183) dX6_node_182 rfl rfl rfl ?_
        refine J_aload_n (i := 0) (q := 1) (pc1 := 184) dX6_node_183 rfl rfl rfl ?_
        refine J_getR (T := TX6) (f' := 6) (i' := 0) (pc1 := 187) eC0 rfl rfl inX6 0 (by decide) rfl rfl flX6_12 rfl dX6_node_184 rfl ?_
        refine J_getI (T := TX0) (pc1 := 190) (eC6 hnc.1) rfl rfl inX0 4 (by decide) rfl flX6_60 rfl dX6_node_187 rfl ?_
        obtain ⟨r29, hc28, h⟩ := gBp_s h
        refine J_callV (As := [.int (μ 6 0 4)]) (ad := ad) (f := 11) (i := r2) (st := []) (st1 := [.int r29]) (pc1 := 193) (kX4_lease l D tc sa ad nc hnc hI r2 h3 (μ 6 0 4) μ r29 hc28) wcX4_lease wlX6_190 (eC11 h3) rfl rfl rfl ⟨rfl, rfl, Nat.le_of_ble_eq_true rfl, Nat.le_of_ble_eq_true rfl⟩ ⟨Nat.zero_le _, Nat.zero_le _⟩ (Nat.le_of_ble_eq_true rfl) dX6_node_190 rfl rfl ?_
        cases h
      rw [if_neg q27] at h
      refine J_swOut (tgt := 194) dX6_node_27 (by have := i32_ne (k := 0) q8 (by decide); have := i32_ne (k := 1) q10 (by decide); have := i32_ne (k := 2) q11 (by decide); have := i32_ne (k := 3) q12 (by decide); have := i32_ne (k := 4) q13 (by decide); have := i32_ne (k := 5) q14 (by decide); have := i32_ne (k := 6) q17 (by decide); have := i32_ne (k := 7) q20 (by decide); have := i32_ne (k := 8) q21 (by decide); have := i32_ne (k := 9) q24 (by decide); have := i32_ne (k := 10) q25 (by decide); have := i32_ne (k := 11) q26 (by decide); have := i32_ne (k := 12) q27 (by decide); omega) (by decide) ?_
      refine J_aload_n (i := 3) (q := 0) (pc1 := 195) dX6_node_194 rfl rfl rfl ?_
      refine J_getI (T := TX4) (pc1 := 198) (eC11 h3) rfl rfl inX4 6 (by decide) rfl flX6_130 rfl dX6_node_195 rfl ?_
      refine J_iconst (v := 1) (pc1 := 199) dX6_node_198 (by decide) rfl ?_
      obtain ⟨x30, e31, h⟩ := gLet_s h
      have k32 : JCX p l e ({ frames := 7, cells := 1, slots := 6, locals := 121 } : Room) s m args below meth c cX6_node 4 RX6 D tc sa ad nc sz E0 μ' μ 210 [(3, .ref (ad 11 r2)), (0, .ref (ad 0 0)), (1, .int a1), (2, .int a2)] [.int x30] := by
        cases h
      refine J_icmp_ne (tgt := 209) (pc1 := 202) dX6_node_199 (by decide) (fun q33 => ?_) rfl (fun q33 => ?_)
      · rw [if_neg q33] at e31
        subst e31
        refine J_iconst (v := 0) (pc1 := 210) dX6_node_209 (by decide) rfl ?_
        exact k32
      · rw [if_pos q33] at e31
        subst e31
        refine J_aload_n (i := 3) (q := 0) (pc1 := 203) dX6_node_202 rfl rfl rfl ?_
        refine J_getI (T := TX4) (pc1 := 206) (eC11 h3) rfl rfl inX4 11 (by decide) rfl flX6_193 rfl dX6_node_203 rfl ?_
        refine J_goto (tgt := 210) dX6_node_206 (by decide) ?_
        exact k32
    · rw [if_neg q7] at h
      refine J_sub [] (lv1 := []) rfl ?_
      exact kj4 ()  h
def mX6_noted (nc : Nat) (a1 : Int32) (a2 : Int32) (a3 : Int32) (μ : gM) : Option (Sum (String × gM) (Int32)) :=
  gBx (mX6_replicaAt nc a1 μ) fun r2 =>
  gChk (r2 < 5 * nc) <|
  gBp (mX6_isNode nc a2 μ) fun r5 =>
  if r5 = 0 then
    some (.inl ("java/lang/IndexOutOfBoundsException", μ))
  else
    gJon (fun (u8 : Unit) =>
        some (.inl ("java/lang/IllegalArgumentException", μ))) fun j7 =>
    if a1 = a2 then
      j7 () 
    else
      if a3 < 0 then
        j7 () 
      else
        if a3 ≤ 2 then
          if (μ 11 r2 6) = 2 then
            if a3 = 0 then
              gChk (inb a2 5) <|
              some (.inr (μ 13 r2 (a2.toNatClampNeg)))
            else if a3 = 1 then
              gChk (inb a2 5) <|
              some (.inr (μ 14 r2 (a2.toNatClampNeg)))
            else 
              gChk (inb a2 5) <|
              some (.inr (μ 15 r2 (a2.toNatClampNeg)))
          else
            some (.inl ("java/lang/IllegalStateException", μ))
        else
          j7 () 
set_option maxHeartbeats 4000000 in
set_option maxRecDepth 100000 in
theorem kX6_noted (l : Launch) (D : va_G) (tc : Nat → ClassId) (sa : Nat → Nat) (ad : Nat → Nat → Nat) (nc : Nat) (hnc : 0 < nc ∧ nc ≤ 2) (hI : gI (gE_C nc) ad) (a1 : Int32) (a2 : Int32) (a3 : Int32) (μ : gM) (r : Int32) (h : mX6_noted nc a1 a2 a3 μ = some (.inr r)) : gMet l yX6_noted cX6_noted 5 (some .int) ({ frames := 1, cells := 0, slots := 0, locals := 21 } : Room) D (gE_C nc) gkd_C tc ad (grh_C nc) sa [.ref (ad 0 0), .int a1, .int a2, .int a3] μ (some (.int r)) μ := by
  refine gMet_of hI ⟨by decide +kernel, Nat.le_of_ble_eq_true rfl⟩ (fun p e s m args below meth c sz hr hlk => ?_)
  unfold mX6_noted at h
  show JC p l e ({ frames := 1, cells := 0, slots := 0, locals := 21 } : Room) s m args below meth c cX6_noted 5 RX6 D tc sa ad nc sz (some (.int r)) μ μ 0 [(0, .ref (ad 0 0)), (1, .int a1), (2, .int a2), (3, .int a3)] []
  refine J_aload_n (i := 0) (q := 0) (pc1 := 1) dX6_noted_0 rfl rfl rfl ?_
  refine J_iload_n (i := 1) (q := 1) (pc1 := 2) dX6_noted_1 rfl rfl rfl ?_
  obtain ⟨r2, hc1, h⟩ := gBx_r h
  obtain ⟨h3, h⟩ := gChk_s h
  refine J_callV (As := [.int a1]) (ad := ad) (f := 0) (i := 0) (st := []) (st1 := [.ref (ad 11 r2)]) (pc1 := 5) (kX6_replicaAt l D tc sa ad nc hnc hI a1 μ r2 hc1) wcX6_replicaAt wlX6_93 eC0 rfl rfl rfl ⟨rfl, rfl, Nat.le_of_ble_eq_true rfl, Nat.le_of_ble_eq_true rfl⟩ ⟨Nat.zero_le _, Nat.zero_le _⟩ (Nat.le_of_ble_eq_true rfl) dX6_noted_2 rfl rfl ?_
  refine J_astore (i := 4) (lv1 := [(4, .ref (ad 11 r2)), (0, .ref (ad 0 0)), (1, .int a1), (2, .int a2), (3, .int a3)]) (pc1 := 7) dX6_noted_5 (by decide) rfl rfl ?_
  refine J_iload_n (i := 2) (q := 3) (pc1 := 8) dX6_noted_7 rfl rfl rfl ?_
  obtain ⟨r5, hc4, h⟩ := gBp_s h
  refine J_callS (As := [.int a2]) (st := []) (st1 := [.int r5]) (pc1 := 11) (kX6_isNode l D tc sa ad nc hnc hI a2 μ r5 hc4) wcX6_isNode wlX6_75 rfl ⟨rfl, rfl, Nat.le_of_ble_eq_true rfl, Nat.le_of_ble_eq_true rfl⟩ ⟨Nat.zero_le _, Nat.zero_le _⟩ (Nat.le_of_ble_eq_true rfl) dX6_noted_8 rfl rfl ?_
  refine J_if_ne (tgt := 24) (pc1 := 14) dX6_noted_11 (by decide) (fun q6 => ?_) rfl (fun q6 => ?_)
  · rw [if_neg q6] at h
    refine J_iload_n (i := 1) (q := 2) (pc1 := 25) dX6_noted_24 rfl rfl rfl ?_
    refine J_iload_n (i := 2) (q := 3) (pc1 := 26) dX6_noted_25 rfl rfl rfl ?_
    obtain ⟨j7, ej7, h⟩ := gJon_s h
    have kj7 : ∀ (u8 : Unit), j7 u8 = some (.inr r) → JC p l e ({ frames := 1, cells := 0, slots := 0, locals := 21 } : Room) s m args below meth c cX6_noted 5 RX6 D tc sa ad nc sz (some (.int r)) μ μ 38 [] [] := by
      intro u8 h
      rw [ej7] at h
      try dsimp only at h
      cases h
    clear ej7
    refine J_icmp_eq (tgt := 38) (pc1 := 29) dX6_noted_26 (by decide) (fun q9 => ?_) rfl (fun q9 => ?_)
    · rw [if_pos q9] at h
      refine J_sub [] (lv1 := []) rfl ?_
      exact kj7 ()  h
    · rw [if_neg q9] at h
      refine J_iload_n (i := 3) (q := 4) (pc1 := 30) dX6_noted_29 rfl rfl rfl ?_
      refine J_if_lt (tgt := 38) (pc1 := 33) dX6_noted_30 (by decide) (fun q10 => ?_) rfl (fun q10 => ?_)
      · rw [if_pos q10] at h
        refine J_sub [] (lv1 := []) rfl ?_
        exact kj7 ()  h
      · rw [if_neg q10] at h
        refine J_iload_n (i := 3) (q := 4) (pc1 := 34) dX6_noted_33 rfl rfl rfl ?_
        refine J_iconst (v := 2) (pc1 := 35) dX6_noted_34 (by decide) rfl ?_
        refine J_icmp_le (tgt := 48) (pc1 := 38) dX6_noted_35 (by decide) (fun q11 => ?_) rfl (fun q11 => ?_)
        · rw [if_pos q11] at h
          refine J_aload (i := 4) (q := 0) (pc1 := 50) dX6_noted_48 rfl rfl ?_
          refine J_getI (T := TX4) (pc1 := 53) (eC11 h3) rfl rfl inX4 6 (by decide) rfl flX6_130 rfl dX6_noted_50 rfl ?_
          refine J_iconst (v := 2) (pc1 := 54) dX6_noted_53 (by decide) rfl ?_
          refine J_icmp_eq (tgt := 67) (pc1 := 57) dX6_noted_54 (by decide) (fun q12 => ?_) rfl (fun q12 => ?_)
          · rw [if_pos q12] at h
            refine J_iload_n (i := 3) (q := 4) (pc1 := 68) dX6_noted_67 rfl rfl rfl ?_
            by_cases q13 : a3 = 0
            · rw [if_pos q13] at h
              refine J_lookup (off := 28) (tgt := 96) dX6_noted_68 (by decide) (by rw [q13]; decide) (by decide) ?_
              refine J_aload (i := 4) (q := 0) (pc1 := 98) dX6_noted_96 rfl rfl ?_
              refine J_getR (T := TX4) (f' := 13) (i' := r2) (pc1 := 101) (eC11 h3) rfl rfl inX4 2 (by decide) rfl rfl flX6_198 rfl dX6_noted_98 rfl ?_
              refine J_iload_n (i := 2) (q := 3) (pc1 := 102) dX6_noted_101 rfl rfl rfl ?_
              obtain ⟨h14, h⟩ := gChk_s h
              refine J_iald (ix := (a2.toNatClampNeg)) (pc1 := 103) rfl (eC13 h3) rfl h14 dX6_noted_102 rfl ?_
              cases h
              exact J_iret hr hlk dX6_noted_103
            rw [if_neg q13] at h
            by_cases q15 : a3 = 1
            · rw [if_pos q15] at h
              refine J_lookup (off := 36) (tgt := 104) dX6_noted_68 (by decide) (by rw [q15]; decide) (by decide) ?_
              refine J_aload (i := 4) (q := 0) (pc1 := 106) dX6_noted_104 rfl rfl ?_
              refine J_getR (T := TX4) (f' := 14) (i' := r2) (pc1 := 109) (eC11 h3) rfl rfl inX4 3 (by decide) rfl rfl flX6_202 rfl dX6_noted_106 rfl ?_
              refine J_iload_n (i := 2) (q := 3) (pc1 := 110) dX6_noted_109 rfl rfl rfl ?_
              obtain ⟨h16, h⟩ := gChk_s h
              refine J_iald (ix := (a2.toNatClampNeg)) (pc1 := 111) rfl (eC14 h3) rfl h16 dX6_noted_110 rfl ?_
              cases h
              exact J_iret hr hlk dX6_noted_111
            rw [if_neg q15] at h
            refine J_lookup (off := 44) (tgt := 112) dX6_noted_68 (by decide) ((lv_osw (a := 0) q13 (by decide)).trans ((lv_osw (a := 1) q15 (by decide)).trans rfl)) (by decide) ?_
            refine J_aload (i := 4) (q := 0) (pc1 := 114) dX6_noted_112 rfl rfl ?_
            refine J_getR (T := TX4) (f' := 15) (i' := r2) (pc1 := 117) (eC11 h3) rfl rfl inX4 4 (by decide) rfl rfl flX6_205 rfl dX6_noted_114 rfl ?_
            refine J_iload_n (i := 2) (q := 3) (pc1 := 118) dX6_noted_117 rfl rfl rfl ?_
            obtain ⟨h17, h⟩ := gChk_s h
            refine J_iald (ix := (a2.toNatClampNeg)) (pc1 := 119) rfl (eC15 h3) rfl h17 dX6_noted_118 rfl ?_
            cases h
            exact J_iret hr hlk dX6_noted_119
          · rw [if_neg q12] at h
            cases h
        · rw [if_neg q11] at h
          refine J_sub [] (lv1 := []) rfl ?_
          exact kj7 ()  h
  · rw [if_pos q6] at h
    cases h
set_option maxHeartbeats 4000000 in
set_option maxRecDepth 100000 in
theorem tX6_noted (l : Launch) (D : va_G) (tc : Nat → ClassId) (sa : Nat → Nat) (ad : Nat → Nat → Nat) (nc : Nat) (hnc : 0 < nc ∧ nc ≤ 2) (hI : gI (gE_C nc) ad) (a1 : Int32) (a2 : Int32) (a3 : Int32) (μ : gM) (hlz : l.stackTraces = false) (E0 : String) (μ' : gM) (h : mX6_noted nc a1 a2 a3 μ = some (.inl (E0, μ'))) : gMetX l yX6_noted cX6_noted 5 (some .int) ({ frames := 7, cells := 1, slots := 6, locals := 121 } : Room) D (gE_C nc) gkd_C tc ad (grh_C nc) sa [.ref (ad 0 0), .int a1, .int a2, .int a3] μ E0 μ' := by
  refine gMetX_of hI ⟨by decide +kernel, Nat.le_of_ble_eq_true rfl⟩ (fun p e s m args below meth c sz hr hlk hT => ?_)
  unfold mX6_noted at h
  show JCX p l e ({ frames := 7, cells := 1, slots := 6, locals := 121 } : Room) s m args below meth c cX6_noted 5 RX6 D tc sa ad nc sz E0 μ' μ 0 [(0, .ref (ad 0 0)), (1, .int a1), (2, .int a2), (3, .int a3)] []
  refine J_aload_n (i := 0) (q := 0) (pc1 := 1) dX6_noted_0 rfl rfl rfl ?_
  refine J_iload_n (i := 1) (q := 1) (pc1 := 2) dX6_noted_1 rfl rfl rfl ?_
  rcases gBx_l h with hc1 | ⟨r2, hc1, h⟩
  · exact J_callX (As := [.int a1]) (ad := ad) (f := 0) (i := 0) (st := []) hT (tX6_replicaAt l D tc sa ad nc hnc hI a1 μ hlz E0 μ' hc1) wcX6_replicaAt wlX6_93 eC0 rfl rfl rfl ⟨rfl, rfl, Nat.le_of_ble_eq_true rfl, Nat.le_of_ble_eq_true rfl⟩ ⟨by decide, by decide⟩ (Nat.le_of_ble_eq_true rfl) hlk dX6_noted_2
  obtain ⟨h3, h⟩ := gChk_s h
  refine J_callV (As := [.int a1]) (ad := ad) (f := 0) (i := 0) (st := []) (st1 := [.ref (ad 11 r2)]) (pc1 := 5) (kX6_replicaAt l D tc sa ad nc hnc hI a1 μ r2 hc1) wcX6_replicaAt wlX6_93 eC0 rfl rfl rfl ⟨rfl, rfl, Nat.le_of_ble_eq_true rfl, Nat.le_of_ble_eq_true rfl⟩ ⟨Nat.zero_le _, Nat.zero_le _⟩ (Nat.le_of_ble_eq_true rfl) dX6_noted_2 rfl rfl ?_
  refine J_astore (i := 4) (lv1 := [(4, .ref (ad 11 r2)), (0, .ref (ad 0 0)), (1, .int a1), (2, .int a2), (3, .int a3)]) (pc1 := 7) dX6_noted_5 (by decide) rfl rfl ?_
  refine J_iload_n (i := 2) (q := 3) (pc1 := 8) dX6_noted_7 rfl rfl rfl ?_
  obtain ⟨r5, hc4, h⟩ := gBp_s h
  refine J_callS (As := [.int a2]) (st := []) (st1 := [.int r5]) (pc1 := 11) (kX6_isNode l D tc sa ad nc hnc hI a2 μ r5 hc4) wcX6_isNode wlX6_75 rfl ⟨rfl, rfl, Nat.le_of_ble_eq_true rfl, Nat.le_of_ble_eq_true rfl⟩ ⟨Nat.zero_le _, Nat.zero_le _⟩ (Nat.le_of_ble_eq_true rfl) dX6_noted_8 rfl rfl ?_
  refine J_if_ne (tgt := 24) (pc1 := 14) dX6_noted_11 (by decide) (fun q6 => ?_) rfl (fun q6 => ?_)
  · rw [if_neg q6] at h
    refine J_iload_n (i := 1) (q := 2) (pc1 := 25) dX6_noted_24 rfl rfl rfl ?_
    refine J_iload_n (i := 2) (q := 3) (pc1 := 26) dX6_noted_25 rfl rfl rfl ?_
    obtain ⟨j7, ej7, h⟩ := gJon_s h
    have kj7 : ∀ (u8 : Unit), j7 u8 = some (.inl (E0, μ')) → JCX p l e ({ frames := 7, cells := 1, slots := 6, locals := 121 } : Room) s m args below meth c cX6_noted 5 RX6 D tc sa ad nc sz E0 μ' μ 38 [] [] := by
      intro u8 h
      rw [ej7] at h
      try dsimp only at h
      cases h
      exact J_throwS (i := 12) (text := jsT 12) hlz hT xf_IllegalArgumentException clX6_38 ini_IllegalArgumentException ⟨by decide, rfl, rfl, rfl⟩ (xh_IllegalArgumentException clX6_38) hlk dX6_noted_38 dX6_noted_41 dX6_noted_42 dX6_noted_44 dX6_noted_47 ⟨by decide, by decide, by decide, by decide⟩
    clear ej7
    refine J_icmp_eq (tgt := 38) (pc1 := 29) dX6_noted_26 (by decide) (fun q9 => ?_) rfl (fun q9 => ?_)
    · rw [if_pos q9] at h
      refine J_sub [] (lv1 := []) rfl ?_
      exact kj7 ()  h
    · rw [if_neg q9] at h
      refine J_iload_n (i := 3) (q := 4) (pc1 := 30) dX6_noted_29 rfl rfl rfl ?_
      refine J_if_lt (tgt := 38) (pc1 := 33) dX6_noted_30 (by decide) (fun q10 => ?_) rfl (fun q10 => ?_)
      · rw [if_pos q10] at h
        refine J_sub [] (lv1 := []) rfl ?_
        exact kj7 ()  h
      · rw [if_neg q10] at h
        refine J_iload_n (i := 3) (q := 4) (pc1 := 34) dX6_noted_33 rfl rfl rfl ?_
        refine J_iconst (v := 2) (pc1 := 35) dX6_noted_34 (by decide) rfl ?_
        refine J_icmp_le (tgt := 48) (pc1 := 38) dX6_noted_35 (by decide) (fun q11 => ?_) rfl (fun q11 => ?_)
        · rw [if_pos q11] at h
          refine J_aload (i := 4) (q := 0) (pc1 := 50) dX6_noted_48 rfl rfl ?_
          refine J_getI (T := TX4) (pc1 := 53) (eC11 h3) rfl rfl inX4 6 (by decide) rfl flX6_130 rfl dX6_noted_50 rfl ?_
          refine J_iconst (v := 2) (pc1 := 54) dX6_noted_53 (by decide) rfl ?_
          refine J_icmp_eq (tgt := 67) (pc1 := 57) dX6_noted_54 (by decide) (fun q12 => ?_) rfl (fun q12 => ?_)
          · rw [if_pos q12] at h
            refine J_iload_n (i := 3) (q := 4) (pc1 := 68) dX6_noted_67 rfl rfl rfl ?_
            by_cases q13 : a3 = 0
            · rw [if_pos q13] at h
              refine J_lookup (off := 28) (tgt := 96) dX6_noted_68 (by decide) (by rw [q13]; decide) (by decide) ?_
              refine J_aload (i := 4) (q := 0) (pc1 := 98) dX6_noted_96 rfl rfl ?_
              refine J_getR (T := TX4) (f' := 13) (i' := r2) (pc1 := 101) (eC11 h3) rfl rfl inX4 2 (by decide) rfl rfl flX6_198 rfl dX6_noted_98 rfl ?_
              refine J_iload_n (i := 2) (q := 3) (pc1 := 102) dX6_noted_101 rfl rfl rfl ?_
              obtain ⟨h14, h⟩ := gChk_s h
              refine J_iald (ix := (a2.toNatClampNeg)) (pc1 := 103) rfl (eC13 h3) rfl h14 dX6_noted_102 rfl ?_
              cases h
            rw [if_neg q13] at h
            by_cases q15 : a3 = 1
            · rw [if_pos q15] at h
              refine J_lookup (off := 36) (tgt := 104) dX6_noted_68 (by decide) (by rw [q15]; decide) (by decide) ?_
              refine J_aload (i := 4) (q := 0) (pc1 := 106) dX6_noted_104 rfl rfl ?_
              refine J_getR (T := TX4) (f' := 14) (i' := r2) (pc1 := 109) (eC11 h3) rfl rfl inX4 3 (by decide) rfl rfl flX6_202 rfl dX6_noted_106 rfl ?_
              refine J_iload_n (i := 2) (q := 3) (pc1 := 110) dX6_noted_109 rfl rfl rfl ?_
              obtain ⟨h16, h⟩ := gChk_s h
              refine J_iald (ix := (a2.toNatClampNeg)) (pc1 := 111) rfl (eC14 h3) rfl h16 dX6_noted_110 rfl ?_
              cases h
            rw [if_neg q15] at h
            refine J_lookup (off := 44) (tgt := 112) dX6_noted_68 (by decide) ((lv_osw (a := 0) q13 (by decide)).trans ((lv_osw (a := 1) q15 (by decide)).trans rfl)) (by decide) ?_
            refine J_aload (i := 4) (q := 0) (pc1 := 114) dX6_noted_112 rfl rfl ?_
            refine J_getR (T := TX4) (f' := 15) (i' := r2) (pc1 := 117) (eC11 h3) rfl rfl inX4 4 (by decide) rfl rfl flX6_205 rfl dX6_noted_114 rfl ?_
            refine J_iload_n (i := 2) (q := 3) (pc1 := 118) dX6_noted_117 rfl rfl rfl ?_
            obtain ⟨h17, h⟩ := gChk_s h
            refine J_iald (ix := (a2.toNatClampNeg)) (pc1 := 119) rfl (eC15 h3) rfl h17 dX6_noted_118 rfl ?_
            cases h
          · rw [if_neg q12] at h
            cases h
            exact J_throwS (i := 7) (text := jsT 7) hlz hT xf_IllegalStateException clX6_103 ini_IllegalStateException ⟨by decide, rfl, rfl, rfl⟩ (xh_IllegalStateException clX6_103) hlk dX6_noted_57 dX6_noted_60 dX6_noted_61 dX6_noted_63 dX6_noted_66 ⟨by decide, by decide, by decide, by decide⟩
        · rw [if_neg q11] at h
          refine J_sub [] (lv1 := []) rfl ?_
          exact kj7 ()  h
  · rw [if_pos q6] at h
    cases h
    exact J_throwS (i := 3) (text := jsT 3) hlz hT xf_IndexOutOfBoundsException clX6_78 ini_IndexOutOfBoundsException ⟨by decide, rfl, rfl, rfl⟩ (xh_IndexOutOfBoundsException clX6_78) hlk dX6_noted_14 dX6_noted_17 dX6_noted_18 dX6_noted_20 dX6_noted_23 ⟨by decide, by decide, by decide, by decide⟩
def mX6_entry (nc : Nat) (a1 : Int32) (a2 : Int32) (a3 : Int32) (μ : gM) : Option (Sum (String × gM) (Int32)) :=
  gBx (mX6_replicaAt nc a1 μ) fun r2 =>
  gChk (r2 < 5 * nc) <|
  gBp (mX1_has nc r2 a2 μ) fun r5 =>
  if r5 = 0 then
    some (.inl ("java/lang/IndexOutOfBoundsException", μ))
  else
    gJon (fun (u8 : Unit) =>
        some (.inl ("java/lang/IllegalArgumentException", μ))) fun j7 =>
    if a3 < 0 then
      j7 () 
    else
      if a3 ≤ 2 then
        if a3 = 0 then
          gBp (mX1_termAt nc r2 a2 μ) fun r13 =>
          some (.inr r13)
        else if a3 = 1 then
          gBp (mX1_kindAt nc r2 a2 μ) fun r16 =>
          some (.inr r16)
        else 
          gBp (mX1_valueAt nc r2 a2 μ) fun r18 =>
          some (.inr r18)
      else
        j7 () 
set_option maxHeartbeats 4000000 in
set_option maxRecDepth 100000 in
theorem kX6_entry (l : Launch) (D : va_G) (tc : Nat → ClassId) (sa : Nat → Nat) (ad : Nat → Nat → Nat) (nc : Nat) (hnc : 0 < nc ∧ nc ≤ 2) (hI : gI (gE_C nc) ad) (a1 : Int32) (a2 : Int32) (a3 : Int32) (μ : gM) (r : Int32) (h : mX6_entry nc a1 a2 a3 μ = some (.inr r)) : gMet l yX6_entry cX6_entry 5 (some .int) ({ frames := 2, cells := 0, slots := 0, locals := 45 } : Room) D (gE_C nc) gkd_C tc ad (grh_C nc) sa [.ref (ad 0 0), .int a1, .int a2, .int a3] μ (some (.int r)) μ := by
  refine gMet_of hI ⟨by decide +kernel, Nat.le_of_ble_eq_true rfl⟩ (fun p e s m args below meth c sz hr hlk => ?_)
  unfold mX6_entry at h
  show JC p l e ({ frames := 2, cells := 0, slots := 0, locals := 45 } : Room) s m args below meth c cX6_entry 5 RX6 D tc sa ad nc sz (some (.int r)) μ μ 0 [(0, .ref (ad 0 0)), (1, .int a1), (2, .int a2), (3, .int a3)] []
  refine J_aload_n (i := 0) (q := 0) (pc1 := 1) dX6_entry_0 rfl rfl rfl ?_
  refine J_iload_n (i := 1) (q := 1) (pc1 := 2) dX6_entry_1 rfl rfl rfl ?_
  obtain ⟨r2, hc1, h⟩ := gBx_r h
  obtain ⟨h3, h⟩ := gChk_s h
  refine J_callV (As := [.int a1]) (ad := ad) (f := 0) (i := 0) (st := []) (st1 := [.ref (ad 11 r2)]) (pc1 := 5) (kX6_replicaAt l D tc sa ad nc hnc hI a1 μ r2 hc1) wcX6_replicaAt wlX6_93 eC0 rfl rfl rfl ⟨rfl, rfl, Nat.le_of_ble_eq_true rfl, Nat.le_of_ble_eq_true rfl⟩ ⟨Nat.zero_le _, Nat.zero_le _⟩ (Nat.le_of_ble_eq_true rfl) dX6_entry_2 rfl rfl ?_
  refine J_getR (T := TX4) (f' := 12) (i' := r2) (pc1 := 8) (eC11 h3) rfl rfl inX4 1 (by decide) rfl rfl flX6_120 rfl dX6_entry_5 rfl ?_
  refine J_astore (i := 4) (lv1 := [(4, .ref (ad 12 r2)), (0, .ref (ad 0 0)), (1, .int a1), (2, .int a2), (3, .int a3)]) (pc1 := 10) dX6_entry_8 (by decide) rfl rfl ?_
  refine J_aload (i := 4) (q := 0) (pc1 := 12) dX6_entry_10 rfl rfl ?_
  refine J_iload_n (i := 2) (q := 3) (pc1 := 13) dX6_entry_12 rfl rfl rfl ?_
  obtain ⟨r5, hc4, h⟩ := gBp_s h
  refine J_callV (As := [.int a2]) (ad := ad) (f := 12) (i := r2) (st := []) (st1 := [.int r5]) (pc1 := 16) (kX1_has l D tc sa ad nc hnc hI r2 h3 a2 μ r5 hc4) wcX1_has wlX6_208 (eC12 h3) rfl rfl rfl ⟨rfl, rfl, Nat.le_of_ble_eq_true rfl, Nat.le_of_ble_eq_true rfl⟩ ⟨Nat.zero_le _, Nat.zero_le _⟩ (Nat.le_of_ble_eq_true rfl) dX6_entry_13 rfl rfl ?_
  refine J_if_ne (tgt := 29) (pc1 := 19) dX6_entry_16 (by decide) (fun q6 => ?_) rfl (fun q6 => ?_)
  · rw [if_neg q6] at h
    refine J_iload_n (i := 3) (q := 4) (pc1 := 30) dX6_entry_29 rfl rfl rfl ?_
    obtain ⟨j7, ej7, h⟩ := gJon_s h
    have kj7 : ∀ (u8 : Unit), j7 u8 = some (.inr r) → JC p l e ({ frames := 2, cells := 0, slots := 0, locals := 45 } : Room) s m args below meth c cX6_entry 5 RX6 D tc sa ad nc sz (some (.int r)) μ μ 38 [] [] := by
      intro u8 h
      rw [ej7] at h
      try dsimp only at h
      cases h
    clear ej7
    refine J_if_lt (tgt := 38) (pc1 := 33) dX6_entry_30 (by decide) (fun q9 => ?_) rfl (fun q9 => ?_)
    · rw [if_pos q9] at h
      refine J_sub [] (lv1 := []) rfl ?_
      exact kj7 ()  h
    · rw [if_neg q9] at h
      refine J_iload_n (i := 3) (q := 4) (pc1 := 34) dX6_entry_33 rfl rfl rfl ?_
      refine J_iconst (v := 2) (pc1 := 35) dX6_entry_34 (by decide) rfl ?_
      refine J_icmp_le (tgt := 48) (pc1 := 38) dX6_entry_35 (by decide) (fun q10 => ?_) rfl (fun q10 => ?_)
      · rw [if_pos q10] at h
        refine J_iload_n (i := 3) (q := 4) (pc1 := 49) dX6_entry_48 rfl rfl rfl ?_
        by_cases q11 : a3 = 0
        · rw [if_pos q11] at h
          refine J_lookup (off := 27) (tgt := 76) dX6_entry_49 (by decide) (by rw [q11]; decide) (by decide) ?_
          refine J_aload (i := 4) (q := 0) (pc1 := 78) dX6_entry_76 rfl rfl ?_
          refine J_iload_n (i := 2) (q := 3) (pc1 := 79) dX6_entry_78 rfl rfl rfl ?_
          obtain ⟨r13, hc12, h⟩ := gBp_s h
          refine J_callV (As := [.int a2]) (ad := ad) (f := 12) (i := r2) (st := []) (st1 := [.int r13]) (pc1 := 82) (kX1_termAt l D tc sa ad nc hnc hI r2 h3 a2 μ r13 hc12) wcX1_termAt wlX6_215 (eC12 h3) rfl rfl rfl ⟨rfl, rfl, Nat.le_of_ble_eq_true rfl, Nat.le_of_ble_eq_true rfl⟩ ⟨Nat.zero_le _, Nat.zero_le _⟩ (Nat.le_of_ble_eq_true rfl) dX6_entry_79 rfl rfl ?_
          cases h
          exact J_iret hr hlk dX6_entry_82
        rw [if_neg q11] at h
        by_cases q14 : a3 = 1
        · rw [if_pos q14] at h
          refine J_lookup (off := 34) (tgt := 83) dX6_entry_49 (by decide) (by rw [q14]; decide) (by decide) ?_
          refine J_aload (i := 4) (q := 0) (pc1 := 85) dX6_entry_83 rfl rfl ?_
          refine J_iload_n (i := 2) (q := 3) (pc1 := 86) dX6_entry_85 rfl rfl rfl ?_
          obtain ⟨r16, hc15, h⟩ := gBp_s h
          refine J_callV (As := [.int a2]) (ad := ad) (f := 12) (i := r2) (st := []) (st1 := [.int r16]) (pc1 := 89) (kX1_kindAt l D tc sa ad nc hnc hI r2 h3 a2 μ r16 hc15) wcX1_kindAt wlX6_218 (eC12 h3) rfl rfl rfl ⟨rfl, rfl, Nat.le_of_ble_eq_true rfl, Nat.le_of_ble_eq_true rfl⟩ ⟨Nat.zero_le _, Nat.zero_le _⟩ (Nat.le_of_ble_eq_true rfl) dX6_entry_86 rfl rfl ?_
          cases h
          exact J_iret hr hlk dX6_entry_89
        rw [if_neg q14] at h
        refine J_lookup (off := 41) (tgt := 90) dX6_entry_49 (by decide) ((lv_osw (a := 0) q11 (by decide)).trans ((lv_osw (a := 1) q14 (by decide)).trans rfl)) (by decide) ?_
        refine J_aload (i := 4) (q := 0) (pc1 := 92) dX6_entry_90 rfl rfl ?_
        refine J_iload_n (i := 2) (q := 3) (pc1 := 93) dX6_entry_92 rfl rfl rfl ?_
        obtain ⟨r18, hc17, h⟩ := gBp_s h
        refine J_callV (As := [.int a2]) (ad := ad) (f := 12) (i := r2) (st := []) (st1 := [.int r18]) (pc1 := 96) (kX1_valueAt l D tc sa ad nc hnc hI r2 h3 a2 μ r18 hc17) wcX1_valueAt wlX6_221 (eC12 h3) rfl rfl rfl ⟨rfl, rfl, Nat.le_of_ble_eq_true rfl, Nat.le_of_ble_eq_true rfl⟩ ⟨Nat.zero_le _, Nat.zero_le _⟩ (Nat.le_of_ble_eq_true rfl) dX6_entry_93 rfl rfl ?_
        cases h
        exact J_iret hr hlk dX6_entry_96
      · rw [if_neg q10] at h
        refine J_sub [] (lv1 := []) rfl ?_
        exact kj7 ()  h
  · rw [if_pos q6] at h
    cases h
set_option maxHeartbeats 4000000 in
set_option maxRecDepth 100000 in
theorem tX6_entry (l : Launch) (D : va_G) (tc : Nat → ClassId) (sa : Nat → Nat) (ad : Nat → Nat → Nat) (nc : Nat) (hnc : 0 < nc ∧ nc ≤ 2) (hI : gI (gE_C nc) ad) (a1 : Int32) (a2 : Int32) (a3 : Int32) (μ : gM) (hlz : l.stackTraces = false) (E0 : String) (μ' : gM) (h : mX6_entry nc a1 a2 a3 μ = some (.inl (E0, μ'))) : gMetX l yX6_entry cX6_entry 5 (some .int) ({ frames := 7, cells := 1, slots := 6, locals := 121 } : Room) D (gE_C nc) gkd_C tc ad (grh_C nc) sa [.ref (ad 0 0), .int a1, .int a2, .int a3] μ E0 μ' := by
  refine gMetX_of hI ⟨by decide +kernel, Nat.le_of_ble_eq_true rfl⟩ (fun p e s m args below meth c sz hr hlk hT => ?_)
  unfold mX6_entry at h
  show JCX p l e ({ frames := 7, cells := 1, slots := 6, locals := 121 } : Room) s m args below meth c cX6_entry 5 RX6 D tc sa ad nc sz E0 μ' μ 0 [(0, .ref (ad 0 0)), (1, .int a1), (2, .int a2), (3, .int a3)] []
  refine J_aload_n (i := 0) (q := 0) (pc1 := 1) dX6_entry_0 rfl rfl rfl ?_
  refine J_iload_n (i := 1) (q := 1) (pc1 := 2) dX6_entry_1 rfl rfl rfl ?_
  rcases gBx_l h with hc1 | ⟨r2, hc1, h⟩
  · exact J_callX (As := [.int a1]) (ad := ad) (f := 0) (i := 0) (st := []) hT (tX6_replicaAt l D tc sa ad nc hnc hI a1 μ hlz E0 μ' hc1) wcX6_replicaAt wlX6_93 eC0 rfl rfl rfl ⟨rfl, rfl, Nat.le_of_ble_eq_true rfl, Nat.le_of_ble_eq_true rfl⟩ ⟨by decide, by decide⟩ (Nat.le_of_ble_eq_true rfl) hlk dX6_entry_2
  obtain ⟨h3, h⟩ := gChk_s h
  refine J_callV (As := [.int a1]) (ad := ad) (f := 0) (i := 0) (st := []) (st1 := [.ref (ad 11 r2)]) (pc1 := 5) (kX6_replicaAt l D tc sa ad nc hnc hI a1 μ r2 hc1) wcX6_replicaAt wlX6_93 eC0 rfl rfl rfl ⟨rfl, rfl, Nat.le_of_ble_eq_true rfl, Nat.le_of_ble_eq_true rfl⟩ ⟨Nat.zero_le _, Nat.zero_le _⟩ (Nat.le_of_ble_eq_true rfl) dX6_entry_2 rfl rfl ?_
  refine J_getR (T := TX4) (f' := 12) (i' := r2) (pc1 := 8) (eC11 h3) rfl rfl inX4 1 (by decide) rfl rfl flX6_120 rfl dX6_entry_5 rfl ?_
  refine J_astore (i := 4) (lv1 := [(4, .ref (ad 12 r2)), (0, .ref (ad 0 0)), (1, .int a1), (2, .int a2), (3, .int a3)]) (pc1 := 10) dX6_entry_8 (by decide) rfl rfl ?_
  refine J_aload (i := 4) (q := 0) (pc1 := 12) dX6_entry_10 rfl rfl ?_
  refine J_iload_n (i := 2) (q := 3) (pc1 := 13) dX6_entry_12 rfl rfl rfl ?_
  obtain ⟨r5, hc4, h⟩ := gBp_s h
  refine J_callV (As := [.int a2]) (ad := ad) (f := 12) (i := r2) (st := []) (st1 := [.int r5]) (pc1 := 16) (kX1_has l D tc sa ad nc hnc hI r2 h3 a2 μ r5 hc4) wcX1_has wlX6_208 (eC12 h3) rfl rfl rfl ⟨rfl, rfl, Nat.le_of_ble_eq_true rfl, Nat.le_of_ble_eq_true rfl⟩ ⟨Nat.zero_le _, Nat.zero_le _⟩ (Nat.le_of_ble_eq_true rfl) dX6_entry_13 rfl rfl ?_
  refine J_if_ne (tgt := 29) (pc1 := 19) dX6_entry_16 (by decide) (fun q6 => ?_) rfl (fun q6 => ?_)
  · rw [if_neg q6] at h
    refine J_iload_n (i := 3) (q := 4) (pc1 := 30) dX6_entry_29 rfl rfl rfl ?_
    obtain ⟨j7, ej7, h⟩ := gJon_s h
    have kj7 : ∀ (u8 : Unit), j7 u8 = some (.inl (E0, μ')) → JCX p l e ({ frames := 7, cells := 1, slots := 6, locals := 121 } : Room) s m args below meth c cX6_entry 5 RX6 D tc sa ad nc sz E0 μ' μ 38 [] [] := by
      intro u8 h
      rw [ej7] at h
      try dsimp only at h
      cases h
      exact J_throwS (i := 14) (text := jsT 14) hlz hT xf_IllegalArgumentException clX6_38 ini_IllegalArgumentException ⟨by decide, rfl, rfl, rfl⟩ (xh_IllegalArgumentException clX6_38) hlk dX6_entry_38 dX6_entry_41 dX6_entry_42 dX6_entry_44 dX6_entry_47 ⟨by decide, by decide, by decide, by decide⟩
    clear ej7
    refine J_if_lt (tgt := 38) (pc1 := 33) dX6_entry_30 (by decide) (fun q9 => ?_) rfl (fun q9 => ?_)
    · rw [if_pos q9] at h
      refine J_sub [] (lv1 := []) rfl ?_
      exact kj7 ()  h
    · rw [if_neg q9] at h
      refine J_iload_n (i := 3) (q := 4) (pc1 := 34) dX6_entry_33 rfl rfl rfl ?_
      refine J_iconst (v := 2) (pc1 := 35) dX6_entry_34 (by decide) rfl ?_
      refine J_icmp_le (tgt := 48) (pc1 := 38) dX6_entry_35 (by decide) (fun q10 => ?_) rfl (fun q10 => ?_)
      · rw [if_pos q10] at h
        refine J_iload_n (i := 3) (q := 4) (pc1 := 49) dX6_entry_48 rfl rfl rfl ?_
        by_cases q11 : a3 = 0
        · rw [if_pos q11] at h
          refine J_lookup (off := 27) (tgt := 76) dX6_entry_49 (by decide) (by rw [q11]; decide) (by decide) ?_
          refine J_aload (i := 4) (q := 0) (pc1 := 78) dX6_entry_76 rfl rfl ?_
          refine J_iload_n (i := 2) (q := 3) (pc1 := 79) dX6_entry_78 rfl rfl rfl ?_
          obtain ⟨r13, hc12, h⟩ := gBp_s h
          refine J_callV (As := [.int a2]) (ad := ad) (f := 12) (i := r2) (st := []) (st1 := [.int r13]) (pc1 := 82) (kX1_termAt l D tc sa ad nc hnc hI r2 h3 a2 μ r13 hc12) wcX1_termAt wlX6_215 (eC12 h3) rfl rfl rfl ⟨rfl, rfl, Nat.le_of_ble_eq_true rfl, Nat.le_of_ble_eq_true rfl⟩ ⟨Nat.zero_le _, Nat.zero_le _⟩ (Nat.le_of_ble_eq_true rfl) dX6_entry_79 rfl rfl ?_
          cases h
        rw [if_neg q11] at h
        by_cases q14 : a3 = 1
        · rw [if_pos q14] at h
          refine J_lookup (off := 34) (tgt := 83) dX6_entry_49 (by decide) (by rw [q14]; decide) (by decide) ?_
          refine J_aload (i := 4) (q := 0) (pc1 := 85) dX6_entry_83 rfl rfl ?_
          refine J_iload_n (i := 2) (q := 3) (pc1 := 86) dX6_entry_85 rfl rfl rfl ?_
          obtain ⟨r16, hc15, h⟩ := gBp_s h
          refine J_callV (As := [.int a2]) (ad := ad) (f := 12) (i := r2) (st := []) (st1 := [.int r16]) (pc1 := 89) (kX1_kindAt l D tc sa ad nc hnc hI r2 h3 a2 μ r16 hc15) wcX1_kindAt wlX6_218 (eC12 h3) rfl rfl rfl ⟨rfl, rfl, Nat.le_of_ble_eq_true rfl, Nat.le_of_ble_eq_true rfl⟩ ⟨Nat.zero_le _, Nat.zero_le _⟩ (Nat.le_of_ble_eq_true rfl) dX6_entry_86 rfl rfl ?_
          cases h
        rw [if_neg q14] at h
        refine J_lookup (off := 41) (tgt := 90) dX6_entry_49 (by decide) ((lv_osw (a := 0) q11 (by decide)).trans ((lv_osw (a := 1) q14 (by decide)).trans rfl)) (by decide) ?_
        refine J_aload (i := 4) (q := 0) (pc1 := 92) dX6_entry_90 rfl rfl ?_
        refine J_iload_n (i := 2) (q := 3) (pc1 := 93) dX6_entry_92 rfl rfl rfl ?_
        obtain ⟨r18, hc17, h⟩ := gBp_s h
        refine J_callV (As := [.int a2]) (ad := ad) (f := 12) (i := r2) (st := []) (st1 := [.int r18]) (pc1 := 96) (kX1_valueAt l D tc sa ad nc hnc hI r2 h3 a2 μ r18 hc17) wcX1_valueAt wlX6_221 (eC12 h3) rfl rfl rfl ⟨rfl, rfl, Nat.le_of_ble_eq_true rfl, Nat.le_of_ble_eq_true rfl⟩ ⟨Nat.zero_le _, Nat.zero_le _⟩ (Nat.le_of_ble_eq_true rfl) dX6_entry_93 rfl rfl ?_
        cases h
      · rw [if_neg q10] at h
        refine J_sub [] (lv1 := []) rfl ?_
        exact kj7 ()  h
  · rw [if_pos q6] at h
    cases h
    exact J_throwS (i := 13) (text := jsT 13) hlz hT xf_IndexOutOfBoundsException clX6_78 ini_IndexOutOfBoundsException ⟨by decide, rfl, rfl, rfl⟩ (xh_IndexOutOfBoundsException clX6_78) hlk dX6_entry_19 dX6_entry_22 dX6_entry_23 dX6_entry_25 dX6_entry_28 ⟨by decide, by decide, by decide, by decide⟩
def mX6_message (nc : Nat) (a1 : Int32) (a2 : Int32) (μ : gM) : Option (Sum (String × gM) (Int32)) :=
  gBp (mX3_has nc 0 a1 μ) fun r2 =>
  if r2 = 0 then
    some (.inl ("java/lang/IndexOutOfBoundsException", μ))
  else
    gJon (fun (u5 : Unit) =>
        some (.inl ("java/lang/IllegalArgumentException", μ))) fun j4 =>
    if a2 < 0 then
      j4 () 
    else
      if a2 ≤ 6 then
        gChk (inb a1 40) <|
        gLet (α := Nat) ((μ 10 0 (a1.toNatClampNeg)).toNatClampNeg) fun t9 =>
        gChk (t9 < 42 * nc) <|
        if a2 = 0 then
          some (.inr (μ 19 t9 4))
        else if a2 = 1 then
          some (.inr (μ 19 t9 5))
        else if a2 = 2 then
          some (.inr (μ 19 t9 6))
        else if a2 = 3 then
          some (.inr (μ 19 t9 7))
        else if a2 = 4 then
          some (.inr (μ 19 t9 8))
        else if a2 = 5 then
          some (.inr (μ 19 t9 10))
        else 
          gBp (mX2_detail nc t9 μ) fun r19 =>
          some (.inr r19)
      else
        j4 () 
set_option maxHeartbeats 4000000 in
set_option maxRecDepth 100000 in
theorem kX6_message (l : Launch) (D : va_G) (tc : Nat → ClassId) (sa : Nat → Nat) (ad : Nat → Nat → Nat) (nc : Nat) (hnc : 0 < nc ∧ nc ≤ 2) (hI : gI (gE_C nc) ad) (a1 : Int32) (a2 : Int32) (μ : gM) (r : Int32) (h : mX6_message nc a1 a2 μ = some (.inr r)) : gMet l yX6_message cX6_message 4 (some .int) ({ frames := 1, cells := 0, slots := 0, locals := 21 } : Room) D (gE_C nc) gkd_C tc ad (grh_C nc) sa [.ref (ad 0 0), .int a1, .int a2] μ (some (.int r)) μ := by
  refine gMet_of hI ⟨by decide +kernel, Nat.le_of_ble_eq_true rfl⟩ (fun p e s m args below meth c sz hr hlk => ?_)
  unfold mX6_message at h
  show JC p l e ({ frames := 1, cells := 0, slots := 0, locals := 21 } : Room) s m args below meth c cX6_message 4 RX6 D tc sa ad nc sz (some (.int r)) μ μ 0 [(0, .ref (ad 0 0)), (1, .int a1), (2, .int a2)] []
  refine J_aload_n (i := 0) (q := 0) (pc1 := 1) dX6_message_0 rfl rfl rfl ?_
  refine J_getR (T := TX6) (f' := 6) (i' := 0) (pc1 := 4) eC0 rfl rfl inX6 0 (by decide) rfl rfl flX6_12 rfl dX6_message_1 rfl ?_
  refine J_getR (T := TX0) (f' := 9) (i' := 0) (pc1 := 7) (eC6 hnc.1) rfl rfl inX0 1 (by decide) rfl rfl flX6_66 rfl dX6_message_4 rfl ?_
  refine J_iload_n (i := 1) (q := 1) (pc1 := 8) dX6_message_7 rfl rfl rfl ?_
  obtain ⟨r2, hc1, h⟩ := gBp_s h
  refine J_callV (As := [.int a1]) (ad := ad) (f := 9) (i := 0) (st := []) (st1 := [.int r2]) (pc1 := 11) (kX3_has l D tc sa ad nc hnc hI 0 (hnc.1) a1 μ r2 hc1) wcX3_has wlX6_227 (eC9 hnc.1) rfl rfl rfl ⟨rfl, rfl, Nat.le_of_ble_eq_true rfl, Nat.le_of_ble_eq_true rfl⟩ ⟨Nat.zero_le _, Nat.zero_le _⟩ (Nat.le_of_ble_eq_true rfl) dX6_message_8 rfl rfl ?_
  refine J_if_ne (tgt := 24) (pc1 := 14) dX6_message_11 (by decide) (fun q3 => ?_) rfl (fun q3 => ?_)
  · rw [if_neg q3] at h
    refine J_iload_n (i := 2) (q := 2) (pc1 := 25) dX6_message_24 rfl rfl rfl ?_
    obtain ⟨j4, ej4, h⟩ := gJon_s h
    have kj4 : ∀ (u5 : Unit), j4 u5 = some (.inr r) → JC p l e ({ frames := 1, cells := 0, slots := 0, locals := 21 } : Room) s m args below meth c cX6_message 4 RX6 D tc sa ad nc sz (some (.int r)) μ μ 34 [] [] := by
      intro u5 h
      rw [ej4] at h
      try dsimp only at h
      cases h
    clear ej4
    refine J_if_lt (tgt := 34) (pc1 := 28) dX6_message_25 (by decide) (fun q6 => ?_) rfl (fun q6 => ?_)
    · rw [if_pos q6] at h
      refine J_sub [] (lv1 := []) rfl ?_
      exact kj4 ()  h
    · rw [if_neg q6] at h
      refine J_iload_n (i := 2) (q := 2) (pc1 := 29) dX6_message_28 rfl rfl rfl ?_
      refine J_bipush (v := 6) (pc1 := 31) dX6_message_29 (by decide) rfl ?_
      refine J_icmp_le (tgt := 44) (pc1 := 34) dX6_message_31 (by decide) (fun q7 => ?_) rfl (fun q7 => ?_)
      · rw [if_pos q7] at h
        refine J_aload_n (i := 0) (q := 0) (pc1 := 45) dX6_message_44 rfl rfl rfl ?_
        refine J_getR (T := TX6) (f' := 6) (i' := 0) (pc1 := 48) eC0 rfl rfl inX6 0 (by decide) rfl rfl flX6_12 rfl dX6_message_45 rfl ?_
        refine J_getR (T := TX0) (f' := 9) (i' := 0) (pc1 := 51) (eC6 hnc.1) rfl rfl inX0 1 (by decide) rfl rfl flX6_66 rfl dX6_message_48 rfl ?_
        refine J_getR (T := TX3) (f' := 10) (i' := 0) (pc1 := 54) (eC9 hnc.1) rfl rfl inX3 0 (by decide) rfl rfl flX6_232 rfl dX6_message_51 rfl ?_
        refine J_iload_n (i := 1) (q := 1) (pc1 := 55) dX6_message_54 rfl rfl rfl ?_
        obtain ⟨h8, h⟩ := gChk_s h
        obtain ⟨t9, e10, h⟩ := gLet_s h
        obtain ⟨h11, h⟩ := gChk_s h
        refine J_aald (f' := 19) (i' := t9) (pc1 := 56) (eC10 hnc.1) rfl rfl h8 (by rw [e10]; rfl) dX6_message_55 rfl ?_
        refine J_astore_n (i := 3) (lv1 := [(3, .ref (ad 19 t9)), (0, .ref (ad 0 0)), (1, .int a1), (2, .int a2)]) (pc1 := 57) dX6_message_56 rfl (by decide) rfl rfl ?_
        refine J_iload_n (i := 2) (q := 3) (pc1 := 58) dX6_message_57 rfl rfl rfl ?_
        by_cases q12 : a2 = 0
        · rw [if_pos q12] at h
          refine J_swIn (v := 0) (off := 38) (tgt := 96) dX6_message_58 q12 (by decide) ?_
          refine J_aload_n (i := 3) (q := 0) (pc1 := 97) dX6_message_96 rfl rfl rfl ?_
          refine J_getI (T := TX2) (pc1 := 100) (eC19 h11) rfl rfl inX2 4 (by decide) rfl flX6_236 rfl dX6_message_97 rfl ?_
          cases h
          exact J_iret hr hlk dX6_message_100
        rw [if_neg q12] at h
        by_cases q13 : a2 = 1
        · rw [if_pos q13] at h
          refine J_swIn (v := 1) (off := 43) (tgt := 101) dX6_message_58 q13 (by decide) ?_
          refine J_aload_n (i := 3) (q := 0) (pc1 := 102) dX6_message_101 rfl rfl rfl ?_
          refine J_getI (T := TX2) (pc1 := 105) (eC19 h11) rfl rfl inX2 5 (by decide) rfl flX6_241 rfl dX6_message_102 rfl ?_
          cases h
          exact J_iret hr hlk dX6_message_105
        rw [if_neg q13] at h
        by_cases q14 : a2 = 2
        · rw [if_pos q14] at h
          refine J_swIn (v := 2) (off := 48) (tgt := 106) dX6_message_58 q14 (by decide) ?_
          refine J_aload_n (i := 3) (q := 0) (pc1 := 107) dX6_message_106 rfl rfl rfl ?_
          refine J_getI (T := TX2) (pc1 := 110) (eC19 h11) rfl rfl inX2 6 (by decide) rfl flX6_244 rfl dX6_message_107 rfl ?_
          cases h
          exact J_iret hr hlk dX6_message_110
        rw [if_neg q14] at h
        by_cases q15 : a2 = 3
        · rw [if_pos q15] at h
          refine J_swIn (v := 3) (off := 53) (tgt := 111) dX6_message_58 q15 (by decide) ?_
          refine J_aload_n (i := 3) (q := 0) (pc1 := 112) dX6_message_111 rfl rfl rfl ?_
          refine J_getI (T := TX2) (pc1 := 115) (eC19 h11) rfl rfl inX2 7 (by decide) rfl flX6_247 rfl dX6_message_112 rfl ?_
          cases h
          exact J_iret hr hlk dX6_message_115
        rw [if_neg q15] at h
        by_cases q16 : a2 = 4
        · rw [if_pos q16] at h
          refine J_swIn (v := 4) (off := 58) (tgt := 116) dX6_message_58 q16 (by decide) ?_
          refine J_aload_n (i := 3) (q := 0) (pc1 := 117) dX6_message_116 rfl rfl rfl ?_
          refine J_getI (T := TX2) (pc1 := 120) (eC19 h11) rfl rfl inX2 8 (by decide) rfl flX6_248 rfl dX6_message_117 rfl ?_
          cases h
          exact J_iret hr hlk dX6_message_120
        rw [if_neg q16] at h
        by_cases q17 : a2 = 5
        · rw [if_pos q17] at h
          refine J_swIn (v := 5) (off := 63) (tgt := 121) dX6_message_58 q17 (by decide) ?_
          refine J_aload_n (i := 3) (q := 0) (pc1 := 122) dX6_message_121 rfl rfl rfl ?_
          refine J_getI (T := TX2) (pc1 := 125) (eC19 h11) rfl rfl inX2 10 (by decide) rfl flX6_251 rfl dX6_message_122 rfl ?_
          cases h
          exact J_iret hr hlk dX6_message_125
        rw [if_neg q17] at h
        refine J_swOut (tgt := 126) dX6_message_58 (by have := i32_ne (k := 0) q12 (by decide); have := i32_ne (k := 1) q13 (by decide); have := i32_ne (k := 2) q14 (by decide); have := i32_ne (k := 3) q15 (by decide); have := i32_ne (k := 4) q16 (by decide); have := i32_ne (k := 5) q17 (by decide); omega) (by decide) ?_
        refine J_aload_n (i := 3) (q := 0) (pc1 := 127) dX6_message_126 rfl rfl rfl ?_
        obtain ⟨r19, hc18, h⟩ := gBp_s h
        refine J_callV (As := []) (ad := ad) (f := 19) (i := t9) (st := []) (st1 := [.int r19]) (pc1 := 130) (kX2_detail l D tc sa ad nc hnc hI t9 h11 μ r19 hc18) wcX2_detail wlX6_254 (eC19 h11) rfl rfl rfl ⟨rfl, rfl, Nat.le_of_ble_eq_true rfl, Nat.le_of_ble_eq_true rfl⟩ ⟨Nat.zero_le _, Nat.zero_le _⟩ (Nat.le_of_ble_eq_true rfl) dX6_message_127 rfl rfl ?_
        cases h
        exact J_iret hr hlk dX6_message_130
      · rw [if_neg q7] at h
        refine J_sub [] (lv1 := []) rfl ?_
        exact kj4 ()  h
  · rw [if_pos q3] at h
    cases h
set_option maxHeartbeats 4000000 in
set_option maxRecDepth 100000 in
theorem tX6_message (l : Launch) (D : va_G) (tc : Nat → ClassId) (sa : Nat → Nat) (ad : Nat → Nat → Nat) (nc : Nat) (hnc : 0 < nc ∧ nc ≤ 2) (hI : gI (gE_C nc) ad) (a1 : Int32) (a2 : Int32) (μ : gM) (hlz : l.stackTraces = false) (E0 : String) (μ' : gM) (h : mX6_message nc a1 a2 μ = some (.inl (E0, μ'))) : gMetX l yX6_message cX6_message 4 (some .int) ({ frames := 6, cells := 1, slots := 6, locals := 100 } : Room) D (gE_C nc) gkd_C tc ad (grh_C nc) sa [.ref (ad 0 0), .int a1, .int a2] μ E0 μ' := by
  refine gMetX_of hI ⟨by decide +kernel, Nat.le_of_ble_eq_true rfl⟩ (fun p e s m args below meth c sz hr hlk hT => ?_)
  unfold mX6_message at h
  show JCX p l e ({ frames := 6, cells := 1, slots := 6, locals := 100 } : Room) s m args below meth c cX6_message 4 RX6 D tc sa ad nc sz E0 μ' μ 0 [(0, .ref (ad 0 0)), (1, .int a1), (2, .int a2)] []
  refine J_aload_n (i := 0) (q := 0) (pc1 := 1) dX6_message_0 rfl rfl rfl ?_
  refine J_getR (T := TX6) (f' := 6) (i' := 0) (pc1 := 4) eC0 rfl rfl inX6 0 (by decide) rfl rfl flX6_12 rfl dX6_message_1 rfl ?_
  refine J_getR (T := TX0) (f' := 9) (i' := 0) (pc1 := 7) (eC6 hnc.1) rfl rfl inX0 1 (by decide) rfl rfl flX6_66 rfl dX6_message_4 rfl ?_
  refine J_iload_n (i := 1) (q := 1) (pc1 := 8) dX6_message_7 rfl rfl rfl ?_
  obtain ⟨r2, hc1, h⟩ := gBp_s h
  refine J_callV (As := [.int a1]) (ad := ad) (f := 9) (i := 0) (st := []) (st1 := [.int r2]) (pc1 := 11) (kX3_has l D tc sa ad nc hnc hI 0 (hnc.1) a1 μ r2 hc1) wcX3_has wlX6_227 (eC9 hnc.1) rfl rfl rfl ⟨rfl, rfl, Nat.le_of_ble_eq_true rfl, Nat.le_of_ble_eq_true rfl⟩ ⟨Nat.zero_le _, Nat.zero_le _⟩ (Nat.le_of_ble_eq_true rfl) dX6_message_8 rfl rfl ?_
  refine J_if_ne (tgt := 24) (pc1 := 14) dX6_message_11 (by decide) (fun q3 => ?_) rfl (fun q3 => ?_)
  · rw [if_neg q3] at h
    refine J_iload_n (i := 2) (q := 2) (pc1 := 25) dX6_message_24 rfl rfl rfl ?_
    obtain ⟨j4, ej4, h⟩ := gJon_s h
    have kj4 : ∀ (u5 : Unit), j4 u5 = some (.inl (E0, μ')) → JCX p l e ({ frames := 6, cells := 1, slots := 6, locals := 100 } : Room) s m args below meth c cX6_message 4 RX6 D tc sa ad nc sz E0 μ' μ 34 [] [] := by
      intro u5 h
      rw [ej4] at h
      try dsimp only at h
      cases h
      exact J_throwS (i := 16) (text := jsT 16) hlz hT xf_IllegalArgumentException clX6_38 ini_IllegalArgumentException ⟨by decide, rfl, rfl, rfl⟩ (xh_IllegalArgumentException clX6_38) hlk dX6_message_34 dX6_message_37 dX6_message_38 dX6_message_40 dX6_message_43 ⟨by decide, by decide, by decide, by decide⟩
    clear ej4
    refine J_if_lt (tgt := 34) (pc1 := 28) dX6_message_25 (by decide) (fun q6 => ?_) rfl (fun q6 => ?_)
    · rw [if_pos q6] at h
      refine J_sub [] (lv1 := []) rfl ?_
      exact kj4 ()  h
    · rw [if_neg q6] at h
      refine J_iload_n (i := 2) (q := 2) (pc1 := 29) dX6_message_28 rfl rfl rfl ?_
      refine J_bipush (v := 6) (pc1 := 31) dX6_message_29 (by decide) rfl ?_
      refine J_icmp_le (tgt := 44) (pc1 := 34) dX6_message_31 (by decide) (fun q7 => ?_) rfl (fun q7 => ?_)
      · rw [if_pos q7] at h
        refine J_aload_n (i := 0) (q := 0) (pc1 := 45) dX6_message_44 rfl rfl rfl ?_
        refine J_getR (T := TX6) (f' := 6) (i' := 0) (pc1 := 48) eC0 rfl rfl inX6 0 (by decide) rfl rfl flX6_12 rfl dX6_message_45 rfl ?_
        refine J_getR (T := TX0) (f' := 9) (i' := 0) (pc1 := 51) (eC6 hnc.1) rfl rfl inX0 1 (by decide) rfl rfl flX6_66 rfl dX6_message_48 rfl ?_
        refine J_getR (T := TX3) (f' := 10) (i' := 0) (pc1 := 54) (eC9 hnc.1) rfl rfl inX3 0 (by decide) rfl rfl flX6_232 rfl dX6_message_51 rfl ?_
        refine J_iload_n (i := 1) (q := 1) (pc1 := 55) dX6_message_54 rfl rfl rfl ?_
        obtain ⟨h8, h⟩ := gChk_s h
        obtain ⟨t9, e10, h⟩ := gLet_s h
        obtain ⟨h11, h⟩ := gChk_s h
        refine J_aald (f' := 19) (i' := t9) (pc1 := 56) (eC10 hnc.1) rfl rfl h8 (by rw [e10]; rfl) dX6_message_55 rfl ?_
        refine J_astore_n (i := 3) (lv1 := [(3, .ref (ad 19 t9)), (0, .ref (ad 0 0)), (1, .int a1), (2, .int a2)]) (pc1 := 57) dX6_message_56 rfl (by decide) rfl rfl ?_
        refine J_iload_n (i := 2) (q := 3) (pc1 := 58) dX6_message_57 rfl rfl rfl ?_
        by_cases q12 : a2 = 0
        · rw [if_pos q12] at h
          refine J_swIn (v := 0) (off := 38) (tgt := 96) dX6_message_58 q12 (by decide) ?_
          refine J_aload_n (i := 3) (q := 0) (pc1 := 97) dX6_message_96 rfl rfl rfl ?_
          refine J_getI (T := TX2) (pc1 := 100) (eC19 h11) rfl rfl inX2 4 (by decide) rfl flX6_236 rfl dX6_message_97 rfl ?_
          cases h
        rw [if_neg q12] at h
        by_cases q13 : a2 = 1
        · rw [if_pos q13] at h
          refine J_swIn (v := 1) (off := 43) (tgt := 101) dX6_message_58 q13 (by decide) ?_
          refine J_aload_n (i := 3) (q := 0) (pc1 := 102) dX6_message_101 rfl rfl rfl ?_
          refine J_getI (T := TX2) (pc1 := 105) (eC19 h11) rfl rfl inX2 5 (by decide) rfl flX6_241 rfl dX6_message_102 rfl ?_
          cases h
        rw [if_neg q13] at h
        by_cases q14 : a2 = 2
        · rw [if_pos q14] at h
          refine J_swIn (v := 2) (off := 48) (tgt := 106) dX6_message_58 q14 (by decide) ?_
          refine J_aload_n (i := 3) (q := 0) (pc1 := 107) dX6_message_106 rfl rfl rfl ?_
          refine J_getI (T := TX2) (pc1 := 110) (eC19 h11) rfl rfl inX2 6 (by decide) rfl flX6_244 rfl dX6_message_107 rfl ?_
          cases h
        rw [if_neg q14] at h
        by_cases q15 : a2 = 3
        · rw [if_pos q15] at h
          refine J_swIn (v := 3) (off := 53) (tgt := 111) dX6_message_58 q15 (by decide) ?_
          refine J_aload_n (i := 3) (q := 0) (pc1 := 112) dX6_message_111 rfl rfl rfl ?_
          refine J_getI (T := TX2) (pc1 := 115) (eC19 h11) rfl rfl inX2 7 (by decide) rfl flX6_247 rfl dX6_message_112 rfl ?_
          cases h
        rw [if_neg q15] at h
        by_cases q16 : a2 = 4
        · rw [if_pos q16] at h
          refine J_swIn (v := 4) (off := 58) (tgt := 116) dX6_message_58 q16 (by decide) ?_
          refine J_aload_n (i := 3) (q := 0) (pc1 := 117) dX6_message_116 rfl rfl rfl ?_
          refine J_getI (T := TX2) (pc1 := 120) (eC19 h11) rfl rfl inX2 8 (by decide) rfl flX6_248 rfl dX6_message_117 rfl ?_
          cases h
        rw [if_neg q16] at h
        by_cases q17 : a2 = 5
        · rw [if_pos q17] at h
          refine J_swIn (v := 5) (off := 63) (tgt := 121) dX6_message_58 q17 (by decide) ?_
          refine J_aload_n (i := 3) (q := 0) (pc1 := 122) dX6_message_121 rfl rfl rfl ?_
          refine J_getI (T := TX2) (pc1 := 125) (eC19 h11) rfl rfl inX2 10 (by decide) rfl flX6_251 rfl dX6_message_122 rfl ?_
          cases h
        rw [if_neg q17] at h
        refine J_swOut (tgt := 126) dX6_message_58 (by have := i32_ne (k := 0) q12 (by decide); have := i32_ne (k := 1) q13 (by decide); have := i32_ne (k := 2) q14 (by decide); have := i32_ne (k := 3) q15 (by decide); have := i32_ne (k := 4) q16 (by decide); have := i32_ne (k := 5) q17 (by decide); omega) (by decide) ?_
        refine J_aload_n (i := 3) (q := 0) (pc1 := 127) dX6_message_126 rfl rfl rfl ?_
        obtain ⟨r19, hc18, h⟩ := gBp_s h
        refine J_callV (As := []) (ad := ad) (f := 19) (i := t9) (st := []) (st1 := [.int r19]) (pc1 := 130) (kX2_detail l D tc sa ad nc hnc hI t9 h11 μ r19 hc18) wcX2_detail wlX6_254 (eC19 h11) rfl rfl rfl ⟨rfl, rfl, Nat.le_of_ble_eq_true rfl, Nat.le_of_ble_eq_true rfl⟩ ⟨Nat.zero_le _, Nat.zero_le _⟩ (Nat.le_of_ble_eq_true rfl) dX6_message_127 rfl rfl ?_
        cases h
      · rw [if_neg q7] at h
        refine J_sub [] (lv1 := []) rfl ?_
        exact kj4 ()  h
  · rw [if_pos q3] at h
    cases h
    exact J_throwS (i := 15) (text := jsT 15) hlz hT xf_IndexOutOfBoundsException clX6_78 ini_IndexOutOfBoundsException ⟨by decide, rfl, rfl, rfl⟩ (xh_IndexOutOfBoundsException clX6_78) hlk dX6_message_14 dX6_message_17 dX6_message_18 dX6_message_20 dX6_message_23 ⟨by decide, by decide, by decide, by decide⟩
def mX6_lose (nc : Nat) (a1 : Int32) (μ : gM) : Option (Sum (String × gM) ((Int32 × gM))) :=
  gBp (mX3_has nc 0 a1 μ) fun r2 =>
  if r2 = 0 then
    some (.inl ("java/lang/IndexOutOfBoundsException", μ))
  else
    gBp (mX3_remove nc 0 a1 μ) fun μ5 =>
    gLet (α := gM) (w3 μ5 9 0 7 ((μ5 9 0 7) + 1)) fun μ6 =>
    some (.inr (μ6 9 0 3, μ6))
set_option maxHeartbeats 4000000 in
set_option maxRecDepth 100000 in
theorem kX6_lose (l : Launch) (D : va_G) (tc : Nat → ClassId) (sa : Nat → Nat) (ad : Nat → Nat → Nat) (nc : Nat) (hnc : 0 < nc ∧ nc ≤ 2) (hI : gI (gE_C nc) ad) (a1 : Int32) (μ : gM) (r : Int32) (μ' : gM) (h : mX6_lose nc a1 μ = some (.inr (r, μ'))) : gMet l yX6_lose cX6_lose 2 (some .int) ({ frames := 1, cells := 0, slots := 0, locals := 23 } : Room) D (gE_C nc) gkd_C tc ad (grh_C nc) sa [.ref (ad 0 0), .int a1] μ (some (.int r)) μ' := by
  refine gMet_of hI ⟨by decide +kernel, Nat.le_of_ble_eq_true rfl⟩ (fun p e s m args below meth c sz hr hlk => ?_)
  unfold mX6_lose at h
  show JC p l e ({ frames := 1, cells := 0, slots := 0, locals := 23 } : Room) s m args below meth c cX6_lose 2 RX6 D tc sa ad nc sz (some (.int r)) μ' μ 0 [(0, .ref (ad 0 0)), (1, .int a1)] []
  refine J_aload_n (i := 0) (q := 0) (pc1 := 1) dX6_lose_0 rfl rfl rfl ?_
  refine J_getR (T := TX6) (f' := 6) (i' := 0) (pc1 := 4) eC0 rfl rfl inX6 0 (by decide) rfl rfl flX6_12 rfl dX6_lose_1 rfl ?_
  refine J_getR (T := TX0) (f' := 9) (i' := 0) (pc1 := 7) (eC6 hnc.1) rfl rfl inX0 1 (by decide) rfl rfl flX6_66 rfl dX6_lose_4 rfl ?_
  refine J_iload_n (i := 1) (q := 1) (pc1 := 8) dX6_lose_7 rfl rfl rfl ?_
  obtain ⟨r2, hc1, h⟩ := gBp_s h
  refine J_callV (As := [.int a1]) (ad := ad) (f := 9) (i := 0) (st := []) (st1 := [.int r2]) (pc1 := 11) (kX3_has l D tc sa ad nc hnc hI 0 (hnc.1) a1 μ r2 hc1) wcX3_has wlX6_227 (eC9 hnc.1) rfl rfl rfl ⟨rfl, rfl, Nat.le_of_ble_eq_true rfl, Nat.le_of_ble_eq_true rfl⟩ ⟨Nat.zero_le _, Nat.zero_le _⟩ (Nat.le_of_ble_eq_true rfl) dX6_lose_8 rfl rfl ?_
  refine J_if_ne (tgt := 24) (pc1 := 14) dX6_lose_11 (by decide) (fun q3 => ?_) rfl (fun q3 => ?_)
  · rw [if_neg q3] at h
    refine J_aload_n (i := 0) (q := 0) (pc1 := 25) dX6_lose_24 rfl rfl rfl ?_
    refine J_getR (T := TX6) (f' := 6) (i' := 0) (pc1 := 28) eC0 rfl rfl inX6 0 (by decide) rfl rfl flX6_12 rfl dX6_lose_25 rfl ?_
    refine J_getR (T := TX0) (f' := 9) (i' := 0) (pc1 := 31) (eC6 hnc.1) rfl rfl inX0 1 (by decide) rfl rfl flX6_66 rfl dX6_lose_28 rfl ?_
    refine J_iload_n (i := 1) (q := 1) (pc1 := 32) dX6_lose_31 rfl rfl rfl ?_
    obtain ⟨μ5, hc4, h⟩ := gBp_s h
    refine J_callV (As := [.int a1]) (ad := ad) (f := 9) (i := 0) (st := []) (st1 := []) (pc1 := 35) (kX3_remove l D tc sa ad nc hnc hI 0 (hnc.1) a1 μ μ5 hc4) wcX3_remove wlX6_257 (eC9 hnc.1) rfl rfl rfl ⟨rfl, rfl, Nat.le_of_ble_eq_true rfl, Nat.le_of_ble_eq_true rfl⟩ ⟨Nat.zero_le _, Nat.zero_le _⟩ (Nat.le_of_ble_eq_true rfl) dX6_lose_32 rfl rfl ?_
    refine J_aload_n (i := 0) (q := 0) (pc1 := 36) dX6_lose_35 rfl rfl rfl ?_
    refine J_getR (T := TX6) (f' := 6) (i' := 0) (pc1 := 39) eC0 rfl rfl inX6 0 (by decide) rfl rfl flX6_12 rfl dX6_lose_36 rfl ?_
    refine J_getR (T := TX0) (f' := 9) (i' := 0) (pc1 := 42) (eC6 hnc.1) rfl rfl inX0 1 (by decide) rfl rfl flX6_66 rfl dX6_lose_39 rfl ?_
    refine J_dup (pc1 := 43) dX6_lose_42 rfl rfl ?_
    refine J_getI (T := TX3) (pc1 := 46) (eC9 hnc.1) rfl rfl inX3 7 (by decide) rfl flX6_260 rfl dX6_lose_43 rfl ?_
    refine J_iconst (v := 1) (pc1 := 47) dX6_lose_46 (by decide) rfl ?_
    refine J_iadd (pc1 := 48) dX6_lose_47 rfl ?_
    refine J_putI (T := TX3) (pc1 := 51) (eC9 hnc.1) rfl rfl inX3 tyX3 tyX3_ok nmX3 7 (by decide) rfl (gHrl9 (by decide) (by decide)) flX6_260 rfl rfl rfl rfl dX6_lose_48 rfl ?_
    obtain ⟨μ6, e7, h⟩ := gLet_s h
    rw [← e7]
    clear e7
    refine J_aload_n (i := 0) (q := 0) (pc1 := 52) dX6_lose_51 rfl rfl rfl ?_
    refine J_getR (T := TX6) (f' := 6) (i' := 0) (pc1 := 55) eC0 rfl rfl inX6 0 (by decide) rfl rfl flX6_12 rfl dX6_lose_52 rfl ?_
    refine J_getR (T := TX0) (f' := 9) (i' := 0) (pc1 := 58) (eC6 hnc.1) rfl rfl inX0 1 (by decide) rfl rfl flX6_66 rfl dX6_lose_55 rfl ?_
    refine J_getI (T := TX3) (pc1 := 61) (eC9 hnc.1) rfl rfl inX3 3 (by decide) rfl flX6_224 rfl dX6_lose_58 rfl ?_
    cases h
    exact J_iret hr hlk dX6_lose_61
  · rw [if_pos q3] at h
    cases h
set_option maxHeartbeats 4000000 in
set_option maxRecDepth 100000 in
theorem tX6_lose (l : Launch) (D : va_G) (tc : Nat → ClassId) (sa : Nat → Nat) (ad : Nat → Nat → Nat) (nc : Nat) (hnc : 0 < nc ∧ nc ≤ 2) (hI : gI (gE_C nc) ad) (a1 : Int32) (μ : gM) (hlz : l.stackTraces = false) (E0 : String) (μ' : gM) (h : mX6_lose nc a1 μ = some (.inl (E0, μ'))) : gMetX l yX6_lose cX6_lose 2 (some .int) ({ frames := 6, cells := 1, slots := 6, locals := 100 } : Room) D (gE_C nc) gkd_C tc ad (grh_C nc) sa [.ref (ad 0 0), .int a1] μ E0 μ' := by
  refine gMetX_of hI ⟨by decide +kernel, Nat.le_of_ble_eq_true rfl⟩ (fun p e s m args below meth c sz hr hlk hT => ?_)
  unfold mX6_lose at h
  show JCX p l e ({ frames := 6, cells := 1, slots := 6, locals := 100 } : Room) s m args below meth c cX6_lose 2 RX6 D tc sa ad nc sz E0 μ' μ 0 [(0, .ref (ad 0 0)), (1, .int a1)] []
  refine J_aload_n (i := 0) (q := 0) (pc1 := 1) dX6_lose_0 rfl rfl rfl ?_
  refine J_getR (T := TX6) (f' := 6) (i' := 0) (pc1 := 4) eC0 rfl rfl inX6 0 (by decide) rfl rfl flX6_12 rfl dX6_lose_1 rfl ?_
  refine J_getR (T := TX0) (f' := 9) (i' := 0) (pc1 := 7) (eC6 hnc.1) rfl rfl inX0 1 (by decide) rfl rfl flX6_66 rfl dX6_lose_4 rfl ?_
  refine J_iload_n (i := 1) (q := 1) (pc1 := 8) dX6_lose_7 rfl rfl rfl ?_
  obtain ⟨r2, hc1, h⟩ := gBp_s h
  refine J_callV (As := [.int a1]) (ad := ad) (f := 9) (i := 0) (st := []) (st1 := [.int r2]) (pc1 := 11) (kX3_has l D tc sa ad nc hnc hI 0 (hnc.1) a1 μ r2 hc1) wcX3_has wlX6_227 (eC9 hnc.1) rfl rfl rfl ⟨rfl, rfl, Nat.le_of_ble_eq_true rfl, Nat.le_of_ble_eq_true rfl⟩ ⟨Nat.zero_le _, Nat.zero_le _⟩ (Nat.le_of_ble_eq_true rfl) dX6_lose_8 rfl rfl ?_
  refine J_if_ne (tgt := 24) (pc1 := 14) dX6_lose_11 (by decide) (fun q3 => ?_) rfl (fun q3 => ?_)
  · rw [if_neg q3] at h
    refine J_aload_n (i := 0) (q := 0) (pc1 := 25) dX6_lose_24 rfl rfl rfl ?_
    refine J_getR (T := TX6) (f' := 6) (i' := 0) (pc1 := 28) eC0 rfl rfl inX6 0 (by decide) rfl rfl flX6_12 rfl dX6_lose_25 rfl ?_
    refine J_getR (T := TX0) (f' := 9) (i' := 0) (pc1 := 31) (eC6 hnc.1) rfl rfl inX0 1 (by decide) rfl rfl flX6_66 rfl dX6_lose_28 rfl ?_
    refine J_iload_n (i := 1) (q := 1) (pc1 := 32) dX6_lose_31 rfl rfl rfl ?_
    obtain ⟨μ5, hc4, h⟩ := gBp_s h
    refine J_callV (As := [.int a1]) (ad := ad) (f := 9) (i := 0) (st := []) (st1 := []) (pc1 := 35) (kX3_remove l D tc sa ad nc hnc hI 0 (hnc.1) a1 μ μ5 hc4) wcX3_remove wlX6_257 (eC9 hnc.1) rfl rfl rfl ⟨rfl, rfl, Nat.le_of_ble_eq_true rfl, Nat.le_of_ble_eq_true rfl⟩ ⟨Nat.zero_le _, Nat.zero_le _⟩ (Nat.le_of_ble_eq_true rfl) dX6_lose_32 rfl rfl ?_
    refine J_aload_n (i := 0) (q := 0) (pc1 := 36) dX6_lose_35 rfl rfl rfl ?_
    refine J_getR (T := TX6) (f' := 6) (i' := 0) (pc1 := 39) eC0 rfl rfl inX6 0 (by decide) rfl rfl flX6_12 rfl dX6_lose_36 rfl ?_
    refine J_getR (T := TX0) (f' := 9) (i' := 0) (pc1 := 42) (eC6 hnc.1) rfl rfl inX0 1 (by decide) rfl rfl flX6_66 rfl dX6_lose_39 rfl ?_
    refine J_dup (pc1 := 43) dX6_lose_42 rfl rfl ?_
    refine J_getI (T := TX3) (pc1 := 46) (eC9 hnc.1) rfl rfl inX3 7 (by decide) rfl flX6_260 rfl dX6_lose_43 rfl ?_
    refine J_iconst (v := 1) (pc1 := 47) dX6_lose_46 (by decide) rfl ?_
    refine J_iadd (pc1 := 48) dX6_lose_47 rfl ?_
    refine J_putI (T := TX3) (pc1 := 51) (eC9 hnc.1) rfl rfl inX3 tyX3 tyX3_ok nmX3 7 (by decide) rfl (gHrl9 (by decide) (by decide)) flX6_260 rfl rfl rfl rfl dX6_lose_48 rfl ?_
    obtain ⟨μ6, e7, h⟩ := gLet_s h
    rw [← e7]
    clear e7
    refine J_aload_n (i := 0) (q := 0) (pc1 := 52) dX6_lose_51 rfl rfl rfl ?_
    refine J_getR (T := TX6) (f' := 6) (i' := 0) (pc1 := 55) eC0 rfl rfl inX6 0 (by decide) rfl rfl flX6_12 rfl dX6_lose_52 rfl ?_
    refine J_getR (T := TX0) (f' := 9) (i' := 0) (pc1 := 58) (eC6 hnc.1) rfl rfl inX0 1 (by decide) rfl rfl flX6_66 rfl dX6_lose_55 rfl ?_
    refine J_getI (T := TX3) (pc1 := 61) (eC9 hnc.1) rfl rfl inX3 3 (by decide) rfl flX6_224 rfl dX6_lose_58 rfl ?_
    cases h
  · rw [if_pos q3] at h
    cases h
    exact J_throwS (i := 15) (text := jsT 15) hlz hT xf_IndexOutOfBoundsException clX6_78 ini_IndexOutOfBoundsException ⟨by decide, rfl, rfl, rfl⟩ (xh_IndexOutOfBoundsException clX6_78) hlk dX6_lose_14 dX6_lose_17 dX6_lose_18 dX6_lose_20 dX6_lose_23 ⟨by decide, by decide, by decide, by decide⟩
def mX6_leader (nc : Nat)  (μ : gM) : Option (Sum (String × gM) (Int32)) :=
  gJon (fun (x1 : Int32) =>
      if x1 = (-1) then
        some (.inl ("java/util/NoSuchElementException", μ))
      else
        some (.inr x1)) fun j2 =>
  gFx3 (fun rec7 (x4 : Int32) (x5 : Int32) (x6 : Int32) =>
      if 5 ≤ x6 then
        j2 x4
      else
        gChk (inb x6 5) <|
        if (μ 11 (5 * 0 + (x6.toNatClampNeg)) 5) = 0 then
          rec7 x4 x5 (x6 + 1)
        else
          if (μ 11 (5 * 0 + (x6.toNatClampNeg)) 6) = 2 then
            if (μ 11 (5 * 0 + (x6.toNatClampNeg)) 7) ≤ x5 then
              rec7 x4 x5 (x6 + 1)
            else
              gLet (α := Int32) (μ 11 (5 * 0 + (x6.toNatClampNeg)) 7) fun x13 =>
              rec7 x6 x13 (x6 + 1)
          else
            rec7 x4 x5 (x6 + 1)) 1000000 (-1) (-1) 0
set_option maxHeartbeats 4000000 in
set_option maxRecDepth 100000 in
theorem kX6_leader (l : Launch) (D : va_G) (tc : Nat → ClassId) (sa : Nat → Nat) (ad : Nat → Nat → Nat) (nc : Nat) (hnc : 0 < nc ∧ nc ≤ 2) (hI : gI (gE_C nc) ad)  (μ : gM) (r : Int32) (h : mX6_leader nc  μ = some (.inr r)) : gMet l yX6_leader cX6_leader 5 (some .int) ({ frames := 0, cells := 0, slots := 0, locals := 0 } : Room) D (gE_C nc) gkd_C tc ad (grh_C nc) sa [.ref (ad 0 0)] μ (some (.int r)) μ := by
  refine gMet_of hI ⟨by decide +kernel, Nat.le_of_ble_eq_true rfl⟩ (fun p e s m args below meth c sz hr hlk => ?_)
  unfold mX6_leader at h
  show JC p l e ({ frames := 0, cells := 0, slots := 0, locals := 0 } : Room) s m args below meth c cX6_leader 5 RX6 D tc sa ad nc sz (some (.int r)) μ μ 0 [(0, .ref (ad 0 0))] []
  refine J_iconst (v := (-1)) (pc1 := 1) dX6_leader_0 (by decide) rfl ?_
  refine J_istore_n (i := 1) (lv1 := [(1, .int (-1)), (0, .ref (ad 0 0))]) (pc1 := 2) dX6_leader_1 rfl (by decide) rfl rfl ?_
  refine J_iconst (v := (-1)) (pc1 := 3) dX6_leader_2 (by decide) rfl ?_
  refine J_istore_n (i := 2) (lv1 := [(2, .int (-1)), (1, .int (-1)), (0, .ref (ad 0 0))]) (pc1 := 4) dX6_leader_3 rfl (by decide) rfl rfl ?_
  refine J_iconst (v := 0) (pc1 := 5) dX6_leader_4 (by decide) rfl ?_
  refine J_istore_n (i := 3) (lv1 := [(3, .int 0), (2, .int (-1)), (1, .int (-1)), (0, .ref (ad 0 0))]) (pc1 := 6) dX6_leader_5 rfl (by decide) rfl rfl ?_
  obtain ⟨j2, ej2, h⟩ := gJon_s h
  have kj2 : ∀ (x1 : Int32), j2 x1 = some (.inr r) → JC p l e ({ frames := 0, cells := 0, slots := 0, locals := 0 } : Room) s m args below meth c cX6_leader 5 RX6 D tc sa ad nc sz (some (.int r)) μ μ 62 [(1, .int x1)] [] := by
    intro x1 h
    rw [ej2] at h
    try dsimp only at h
    refine J_iload_n (i := 1) (q := 0) (pc1 := 63) dX6_leader_62 rfl rfl rfl ?_
    refine J_iconst (v := (-1)) (pc1 := 64) dX6_leader_63 (by decide) rfl ?_
    refine J_icmp_ne (tgt := 78) (pc1 := 67) dX6_leader_64 (by decide) (fun q3 => ?_) rfl (fun q3 => ?_)
    · rw [if_neg q3] at h
      refine J_iload_n (i := 1) (q := 0) (pc1 := 79) dX6_leader_78 rfl rfl rfl ?_
      cases h
      exact J_iret hr hlk dX6_leader_79
    · rw [if_pos q3] at h
      cases h
  clear ej2
  refine J_sub [3, 2, 1, 0] (lv1 := [(0, .ref (ad 0 0)), (1, .int (-1)), (2, .int (-1)), (3, .int 0)]) rfl ?_
  refine gFx3_s (P := fun x4 x5 x6 => JC p l e ({ frames := 0, cells := 0, slots := 0, locals := 0 } : Room) s m args below meth c cX6_leader 5 RX6 D tc sa ad nc sz (some (.int r)) μ μ 6 [(0, .ref (ad 0 0)), (1, .int x4), (2, .int x5), (3, .int x6)] []) (fun rec7 ihrec7 x4 x5 x6 h => ?_) _ _ _ _ h
  try dsimp only at h
  refine J_iload_n (i := 3) (q := 3) (pc1 := 7) dX6_leader_6 rfl rfl rfl ?_
  refine J_iconst (v := 5) (pc1 := 8) dX6_leader_7 (by decide) rfl ?_
  refine J_icmp_ge (tgt := 62) (pc1 := 11) dX6_leader_8 (by decide) (fun q8 => ?_) rfl (fun q8 => ?_)
  · rw [if_pos q8] at h
    refine J_sub [1] (lv1 := [(1, .int x4)]) rfl ?_
    exact kj2 _ h
  · rw [if_neg q8] at h
    refine J_aload_n (i := 0) (q := 0) (pc1 := 12) dX6_leader_11 rfl rfl rfl ?_
    refine J_getR (T := TX6) (f' := 6) (i' := 0) (pc1 := 15) eC0 rfl rfl inX6 0 (by decide) rfl rfl flX6_12 rfl dX6_leader_12 rfl ?_
    refine J_getR (T := TX0) (f' := 7) (i' := 0) (pc1 := 18) (eC6 hnc.1) rfl rfl inX0 0 (by decide) rfl rfl flX6_263 rfl dX6_leader_15 rfl ?_
    refine J_iload_n (i := 3) (q := 3) (pc1 := 19) dX6_leader_18 rfl rfl rfl ?_
    obtain ⟨h9, h⟩ := gChk_s h
    refine J_aald (f' := 11) (i' := (5 * 0 + (x6.toNatClampNeg))) (pc1 := 20) (eC7 hnc.1) rfl rfl h9 rfl dX6_leader_19 rfl ?_
    refine J_astore (i := 4) (lv1 := [(4, .ref (ad 11 (5 * 0 + (x6.toNatClampNeg)))), (0, .ref (ad 0 0)), (1, .int x4), (2, .int x5), (3, .int x6)]) (pc1 := 22) dX6_leader_20 (by decide) rfl rfl ?_
    refine J_aload (i := 4) (q := 0) (pc1 := 24) dX6_leader_22 rfl rfl ?_
    refine J_getI (T := TX4) (pc1 := 27) (eC11 (gRep hnc.1 h9)) rfl rfl inX4 5 (by decide) rfl flX6_97 rfl dX6_leader_24 rfl ?_
    refine J_if_eq (tgt := 56) (pc1 := 30) dX6_leader_27 (by decide) (fun q10 => ?_) rfl (fun q10 => ?_)
    · rw [if_pos q10] at h
      refine J_iinc (i := 3) (q := 4) (v := x6 + 1) (lv1 := [(3, .int (x6 + 1)), (4, .ref (ad 11 (5 * 0 + (x6.toNatClampNeg)))), (0, .ref (ad 0 0)), (1, .int x4), (2, .int x5)]) (pc1 := 59) dX6_leader_56 rfl rfl (by decide) rfl rfl ?_
      refine J_goto (tgt := 6) dX6_leader_59 (by decide) ?_
      refine J_sub [2, 3, 4, 0] (lv1 := [(0, .ref (ad 0 0)), (1, .int x4), (2, .int x5), (3, .int (x6 + 1))]) rfl ?_
      exact ihrec7 _ _ _ h
    · rw [if_neg q10] at h
      refine J_aload (i := 4) (q := 0) (pc1 := 32) dX6_leader_30 rfl rfl ?_
      refine J_getI (T := TX4) (pc1 := 35) (eC11 (gRep hnc.1 h9)) rfl rfl inX4 6 (by decide) rfl flX6_130 rfl dX6_leader_32 rfl ?_
      refine J_iconst (v := 2) (pc1 := 36) dX6_leader_35 (by decide) rfl ?_
      refine J_icmp_ne (tgt := 56) (pc1 := 39) dX6_leader_36 (by decide) (fun q11 => ?_) rfl (fun q11 => ?_)
      · rw [if_neg q11] at h
        refine J_iinc (i := 3) (q := 4) (v := x6 + 1) (lv1 := [(3, .int (x6 + 1)), (4, .ref (ad 11 (5 * 0 + (x6.toNatClampNeg)))), (0, .ref (ad 0 0)), (1, .int x4), (2, .int x5)]) (pc1 := 59) dX6_leader_56 rfl rfl (by decide) rfl rfl ?_
        refine J_goto (tgt := 6) dX6_leader_59 (by decide) ?_
        refine J_sub [2, 3, 4, 0] (lv1 := [(0, .ref (ad 0 0)), (1, .int x4), (2, .int x5), (3, .int (x6 + 1))]) rfl ?_
        exact ihrec7 _ _ _ h
      · rw [if_pos q11] at h
        refine J_aload (i := 4) (q := 0) (pc1 := 41) dX6_leader_39 rfl rfl ?_
        refine J_getI (T := TX4) (pc1 := 44) (eC11 (gRep hnc.1 h9)) rfl rfl inX4 7 (by decide) rfl flX6_111 rfl dX6_leader_41 rfl ?_
        refine J_iload_n (i := 2) (q := 3) (pc1 := 45) dX6_leader_44 rfl rfl rfl ?_
        refine J_icmp_le (tgt := 56) (pc1 := 48) dX6_leader_45 (by decide) (fun q12 => ?_) rfl (fun q12 => ?_)
        · rw [if_pos q12] at h
          refine J_iinc (i := 3) (q := 4) (v := x6 + 1) (lv1 := [(3, .int (x6 + 1)), (4, .ref (ad 11 (5 * 0 + (x6.toNatClampNeg)))), (0, .ref (ad 0 0)), (1, .int x4), (2, .int x5)]) (pc1 := 59) dX6_leader_56 rfl rfl (by decide) rfl rfl ?_
          refine J_goto (tgt := 6) dX6_leader_59 (by decide) ?_
          refine J_sub [2, 3, 4, 0] (lv1 := [(0, .ref (ad 0 0)), (1, .int x4), (2, .int x5), (3, .int (x6 + 1))]) rfl ?_
          exact ihrec7 _ _ _ h
        · rw [if_neg q12] at h
          refine J_iload_n (i := 3) (q := 4) (pc1 := 49) dX6_leader_48 rfl rfl rfl ?_
          refine J_istore_n (i := 1) (lv1 := [(1, .int x6), (4, .ref (ad 11 (5 * 0 + (x6.toNatClampNeg)))), (0, .ref (ad 0 0)), (2, .int x5), (3, .int x6)]) (pc1 := 50) dX6_leader_49 rfl (by decide) rfl rfl ?_
          refine J_aload (i := 4) (q := 1) (pc1 := 52) dX6_leader_50 rfl rfl ?_
          refine J_getI (T := TX4) (pc1 := 55) (eC11 (gRep hnc.1 h9)) rfl rfl inX4 7 (by decide) rfl flX6_111 rfl dX6_leader_52 rfl ?_
          obtain ⟨x13, e15, h⟩ := gLet_s h
          refine J_top (fun y14 e16 => ?_)
          have e16x : x13 = y14 := (e16.trans e15.symm).symm
          subst e16x
          refine J_istore_n (i := 2) (lv1 := [(2, .int x13), (1, .int x6), (4, .ref (ad 11 (5 * 0 + (x6.toNatClampNeg)))), (0, .ref (ad 0 0)), (3, .int x6)]) (pc1 := 56) dX6_leader_55 rfl (by decide) rfl rfl ?_
          refine J_iinc (i := 3) (q := 4) (v := x6 + 1) (lv1 := [(3, .int (x6 + 1)), (2, .int x13), (1, .int x6), (4, .ref (ad 11 (5 * 0 + (x6.toNatClampNeg)))), (0, .ref (ad 0 0))]) (pc1 := 59) dX6_leader_56 rfl rfl (by decide) rfl rfl ?_
          refine J_goto (tgt := 6) dX6_leader_59 (by decide) ?_
          refine J_sub [4, 2, 1, 0] (lv1 := [(0, .ref (ad 0 0)), (1, .int x6), (2, .int x13), (3, .int (x6 + 1))]) rfl ?_
          exact ihrec7 _ _ _ h
set_option maxHeartbeats 4000000 in
set_option maxRecDepth 100000 in
theorem tX6_leader (l : Launch) (D : va_G) (tc : Nat → ClassId) (sa : Nat → Nat) (ad : Nat → Nat → Nat) (nc : Nat) (hnc : 0 < nc ∧ nc ≤ 2) (hI : gI (gE_C nc) ad)  (μ : gM) (hlz : l.stackTraces = false) (E0 : String) (μ' : gM) (h : mX6_leader nc  μ = some (.inl (E0, μ'))) : gMetX l yX6_leader cX6_leader 5 (some .int) ({ frames := 6, cells := 1, slots := 6, locals := 100 } : Room) D (gE_C nc) gkd_C tc ad (grh_C nc) sa [.ref (ad 0 0)] μ E0 μ' := by
  refine gMetX_of hI ⟨by decide +kernel, Nat.le_of_ble_eq_true rfl⟩ (fun p e s m args below meth c sz hr hlk hT => ?_)
  unfold mX6_leader at h
  show JCX p l e ({ frames := 6, cells := 1, slots := 6, locals := 100 } : Room) s m args below meth c cX6_leader 5 RX6 D tc sa ad nc sz E0 μ' μ 0 [(0, .ref (ad 0 0))] []
  refine J_iconst (v := (-1)) (pc1 := 1) dX6_leader_0 (by decide) rfl ?_
  refine J_istore_n (i := 1) (lv1 := [(1, .int (-1)), (0, .ref (ad 0 0))]) (pc1 := 2) dX6_leader_1 rfl (by decide) rfl rfl ?_
  refine J_iconst (v := (-1)) (pc1 := 3) dX6_leader_2 (by decide) rfl ?_
  refine J_istore_n (i := 2) (lv1 := [(2, .int (-1)), (1, .int (-1)), (0, .ref (ad 0 0))]) (pc1 := 4) dX6_leader_3 rfl (by decide) rfl rfl ?_
  refine J_iconst (v := 0) (pc1 := 5) dX6_leader_4 (by decide) rfl ?_
  refine J_istore_n (i := 3) (lv1 := [(3, .int 0), (2, .int (-1)), (1, .int (-1)), (0, .ref (ad 0 0))]) (pc1 := 6) dX6_leader_5 rfl (by decide) rfl rfl ?_
  obtain ⟨j2, ej2, h⟩ := gJon_s h
  have kj2 : ∀ (x1 : Int32), j2 x1 = some (.inl (E0, μ')) → JCX p l e ({ frames := 6, cells := 1, slots := 6, locals := 100 } : Room) s m args below meth c cX6_leader 5 RX6 D tc sa ad nc sz E0 μ' μ 62 [(1, .int x1)] [] := by
    intro x1 h
    rw [ej2] at h
    try dsimp only at h
    refine J_iload_n (i := 1) (q := 0) (pc1 := 63) dX6_leader_62 rfl rfl rfl ?_
    refine J_iconst (v := (-1)) (pc1 := 64) dX6_leader_63 (by decide) rfl ?_
    refine J_icmp_ne (tgt := 78) (pc1 := 67) dX6_leader_64 (by decide) (fun q3 => ?_) rfl (fun q3 => ?_)
    · rw [if_neg q3] at h
      refine J_iload_n (i := 1) (q := 0) (pc1 := 79) dX6_leader_78 rfl rfl rfl ?_
      cases h
    · rw [if_pos q3] at h
      cases h
      exact J_throwSWx (i := 17) (text := jsT 17) hlz hT xb_NoSuchElementException xf_NoSuchElementException clX6_267 ini_NoSuchElementException ⟨by decide, rfl, rfl, rfl⟩ (xh_NoSuchElementException clX6_267) hlk dX6_leader_67 dX6_leader_70 dX6_leader_71 dX6_leader_74 dX6_leader_77 ⟨by decide, by decide, by decide, by decide⟩
  clear ej2
  refine J_sub [3, 2, 1, 0] (lv1 := [(0, .ref (ad 0 0)), (1, .int (-1)), (2, .int (-1)), (3, .int 0)]) rfl ?_
  refine gFx3_s (P := fun x4 x5 x6 => JCX p l e ({ frames := 6, cells := 1, slots := 6, locals := 100 } : Room) s m args below meth c cX6_leader 5 RX6 D tc sa ad nc sz E0 μ' μ 6 [(0, .ref (ad 0 0)), (1, .int x4), (2, .int x5), (3, .int x6)] []) (fun rec7 ihrec7 x4 x5 x6 h => ?_) _ _ _ _ h
  try dsimp only at h
  refine J_iload_n (i := 3) (q := 3) (pc1 := 7) dX6_leader_6 rfl rfl rfl ?_
  refine J_iconst (v := 5) (pc1 := 8) dX6_leader_7 (by decide) rfl ?_
  refine J_icmp_ge (tgt := 62) (pc1 := 11) dX6_leader_8 (by decide) (fun q8 => ?_) rfl (fun q8 => ?_)
  · rw [if_pos q8] at h
    refine J_sub [1] (lv1 := [(1, .int x4)]) rfl ?_
    exact kj2 _ h
  · rw [if_neg q8] at h
    refine J_aload_n (i := 0) (q := 0) (pc1 := 12) dX6_leader_11 rfl rfl rfl ?_
    refine J_getR (T := TX6) (f' := 6) (i' := 0) (pc1 := 15) eC0 rfl rfl inX6 0 (by decide) rfl rfl flX6_12 rfl dX6_leader_12 rfl ?_
    refine J_getR (T := TX0) (f' := 7) (i' := 0) (pc1 := 18) (eC6 hnc.1) rfl rfl inX0 0 (by decide) rfl rfl flX6_263 rfl dX6_leader_15 rfl ?_
    refine J_iload_n (i := 3) (q := 3) (pc1 := 19) dX6_leader_18 rfl rfl rfl ?_
    obtain ⟨h9, h⟩ := gChk_s h
    refine J_aald (f' := 11) (i' := (5 * 0 + (x6.toNatClampNeg))) (pc1 := 20) (eC7 hnc.1) rfl rfl h9 rfl dX6_leader_19 rfl ?_
    refine J_astore (i := 4) (lv1 := [(4, .ref (ad 11 (5 * 0 + (x6.toNatClampNeg)))), (0, .ref (ad 0 0)), (1, .int x4), (2, .int x5), (3, .int x6)]) (pc1 := 22) dX6_leader_20 (by decide) rfl rfl ?_
    refine J_aload (i := 4) (q := 0) (pc1 := 24) dX6_leader_22 rfl rfl ?_
    refine J_getI (T := TX4) (pc1 := 27) (eC11 (gRep hnc.1 h9)) rfl rfl inX4 5 (by decide) rfl flX6_97 rfl dX6_leader_24 rfl ?_
    refine J_if_eq (tgt := 56) (pc1 := 30) dX6_leader_27 (by decide) (fun q10 => ?_) rfl (fun q10 => ?_)
    · rw [if_pos q10] at h
      refine J_iinc (i := 3) (q := 4) (v := x6 + 1) (lv1 := [(3, .int (x6 + 1)), (4, .ref (ad 11 (5 * 0 + (x6.toNatClampNeg)))), (0, .ref (ad 0 0)), (1, .int x4), (2, .int x5)]) (pc1 := 59) dX6_leader_56 rfl rfl (by decide) rfl rfl ?_
      refine J_goto (tgt := 6) dX6_leader_59 (by decide) ?_
      refine J_sub [2, 3, 4, 0] (lv1 := [(0, .ref (ad 0 0)), (1, .int x4), (2, .int x5), (3, .int (x6 + 1))]) rfl ?_
      exact ihrec7 _ _ _ h
    · rw [if_neg q10] at h
      refine J_aload (i := 4) (q := 0) (pc1 := 32) dX6_leader_30 rfl rfl ?_
      refine J_getI (T := TX4) (pc1 := 35) (eC11 (gRep hnc.1 h9)) rfl rfl inX4 6 (by decide) rfl flX6_130 rfl dX6_leader_32 rfl ?_
      refine J_iconst (v := 2) (pc1 := 36) dX6_leader_35 (by decide) rfl ?_
      refine J_icmp_ne (tgt := 56) (pc1 := 39) dX6_leader_36 (by decide) (fun q11 => ?_) rfl (fun q11 => ?_)
      · rw [if_neg q11] at h
        refine J_iinc (i := 3) (q := 4) (v := x6 + 1) (lv1 := [(3, .int (x6 + 1)), (4, .ref (ad 11 (5 * 0 + (x6.toNatClampNeg)))), (0, .ref (ad 0 0)), (1, .int x4), (2, .int x5)]) (pc1 := 59) dX6_leader_56 rfl rfl (by decide) rfl rfl ?_
        refine J_goto (tgt := 6) dX6_leader_59 (by decide) ?_
        refine J_sub [2, 3, 4, 0] (lv1 := [(0, .ref (ad 0 0)), (1, .int x4), (2, .int x5), (3, .int (x6 + 1))]) rfl ?_
        exact ihrec7 _ _ _ h
      · rw [if_pos q11] at h
        refine J_aload (i := 4) (q := 0) (pc1 := 41) dX6_leader_39 rfl rfl ?_
        refine J_getI (T := TX4) (pc1 := 44) (eC11 (gRep hnc.1 h9)) rfl rfl inX4 7 (by decide) rfl flX6_111 rfl dX6_leader_41 rfl ?_
        refine J_iload_n (i := 2) (q := 3) (pc1 := 45) dX6_leader_44 rfl rfl rfl ?_
        refine J_icmp_le (tgt := 56) (pc1 := 48) dX6_leader_45 (by decide) (fun q12 => ?_) rfl (fun q12 => ?_)
        · rw [if_pos q12] at h
          refine J_iinc (i := 3) (q := 4) (v := x6 + 1) (lv1 := [(3, .int (x6 + 1)), (4, .ref (ad 11 (5 * 0 + (x6.toNatClampNeg)))), (0, .ref (ad 0 0)), (1, .int x4), (2, .int x5)]) (pc1 := 59) dX6_leader_56 rfl rfl (by decide) rfl rfl ?_
          refine J_goto (tgt := 6) dX6_leader_59 (by decide) ?_
          refine J_sub [2, 3, 4, 0] (lv1 := [(0, .ref (ad 0 0)), (1, .int x4), (2, .int x5), (3, .int (x6 + 1))]) rfl ?_
          exact ihrec7 _ _ _ h
        · rw [if_neg q12] at h
          refine J_iload_n (i := 3) (q := 4) (pc1 := 49) dX6_leader_48 rfl rfl rfl ?_
          refine J_istore_n (i := 1) (lv1 := [(1, .int x6), (4, .ref (ad 11 (5 * 0 + (x6.toNatClampNeg)))), (0, .ref (ad 0 0)), (2, .int x5), (3, .int x6)]) (pc1 := 50) dX6_leader_49 rfl (by decide) rfl rfl ?_
          refine J_aload (i := 4) (q := 1) (pc1 := 52) dX6_leader_50 rfl rfl ?_
          refine J_getI (T := TX4) (pc1 := 55) (eC11 (gRep hnc.1 h9)) rfl rfl inX4 7 (by decide) rfl flX6_111 rfl dX6_leader_52 rfl ?_
          obtain ⟨x13, e15, h⟩ := gLet_s h
          refine J_top (fun y14 e16 => ?_)
          have e16x : x13 = y14 := (e16.trans e15.symm).symm
          subst e16x
          refine J_istore_n (i := 2) (lv1 := [(2, .int x13), (1, .int x6), (4, .ref (ad 11 (5 * 0 + (x6.toNatClampNeg)))), (0, .ref (ad 0 0)), (3, .int x6)]) (pc1 := 56) dX6_leader_55 rfl (by decide) rfl rfl ?_
          refine J_iinc (i := 3) (q := 4) (v := x6 + 1) (lv1 := [(3, .int (x6 + 1)), (2, .int x13), (1, .int x6), (4, .ref (ad 11 (5 * 0 + (x6.toNatClampNeg)))), (0, .ref (ad 0 0))]) (pc1 := 59) dX6_leader_56 rfl rfl (by decide) rfl rfl ?_
          refine J_goto (tgt := 6) dX6_leader_59 (by decide) ?_
          refine J_sub [4, 2, 1, 0] (lv1 := [(0, .ref (ad 0 0)), (1, .int x6), (2, .int x13), (3, .int (x6 + 1))]) rfl ?_
          exact ihrec7 _ _ _ h
def mX6_winner (nc : Nat) (a1 : Int32) (μ : gM) : Option (Sum (String × gM) (Int32)) :=
  gJon (fun (u2 : Unit) =>
      some (.inl ("java/util/NoSuchElementException", μ))) fun j1 =>
  if a1 < 0 then
    j1 () 
  else
    if 100 ≤ a1 then
      j1 () 
    else
      gChk (inb a1 100) <|
      if (μ 8 0 (a1.toNatClampNeg)) = (-1) then
        j1 () 
      else
        gChk (inb a1 100) <|
        some (.inr (μ 8 0 (a1.toNatClampNeg)))
set_option maxHeartbeats 4000000 in
set_option maxRecDepth 100000 in
theorem kX6_winner (l : Launch) (D : va_G) (tc : Nat → ClassId) (sa : Nat → Nat) (ad : Nat → Nat → Nat) (nc : Nat) (hnc : 0 < nc ∧ nc ≤ 2) (hI : gI (gE_C nc) ad) (a1 : Int32) (μ : gM) (r : Int32) (h : mX6_winner nc a1 μ = some (.inr r)) : gMet l yX6_winner cX6_winner 2 (some .int) ({ frames := 0, cells := 0, slots := 0, locals := 0 } : Room) D (gE_C nc) gkd_C tc ad (grh_C nc) sa [.ref (ad 0 0), .int a1] μ (some (.int r)) μ := by
  refine gMet_of hI ⟨by decide +kernel, Nat.le_of_ble_eq_true rfl⟩ (fun p e s m args below meth c sz hr hlk => ?_)
  unfold mX6_winner at h
  show JC p l e ({ frames := 0, cells := 0, slots := 0, locals := 0 } : Room) s m args below meth c cX6_winner 2 RX6 D tc sa ad nc sz (some (.int r)) μ μ 0 [(0, .ref (ad 0 0)), (1, .int a1)] []
  refine J_iload_n (i := 1) (q := 1) (pc1 := 1) dX6_winner_0 rfl rfl rfl ?_
  obtain ⟨j1, ej1, h⟩ := gJon_s h
  have kj1 : ∀ (u2 : Unit), j1 u2 = some (.inr r) → JC p l e ({ frames := 0, cells := 0, slots := 0, locals := 0 } : Room) s m args below meth c cX6_winner 2 RX6 D tc sa ad nc sz (some (.int r)) μ μ 23 [] [] := by
    intro u2 h
    rw [ej1] at h
    try dsimp only at h
    cases h
  clear ej1
  refine J_if_lt (tgt := 23) (pc1 := 4) dX6_winner_1 (by decide) (fun q3 => ?_) rfl (fun q3 => ?_)
  · rw [if_pos q3] at h
    refine J_sub [] (lv1 := []) rfl ?_
    exact kj1 ()  h
  · rw [if_neg q3] at h
    refine J_iload_n (i := 1) (q := 1) (pc1 := 5) dX6_winner_4 rfl rfl rfl ?_
    refine J_bipush (v := 100) (pc1 := 7) dX6_winner_5 (by decide) rfl ?_
    refine J_icmp_ge (tgt := 23) (pc1 := 10) dX6_winner_7 (by decide) (fun q4 => ?_) rfl (fun q4 => ?_)
    · rw [if_pos q4] at h
      refine J_sub [] (lv1 := []) rfl ?_
      exact kj1 ()  h
    · rw [if_neg q4] at h
      refine J_aload_n (i := 0) (q := 0) (pc1 := 11) dX6_winner_10 rfl rfl rfl ?_
      refine J_getR (T := TX6) (f' := 6) (i' := 0) (pc1 := 14) eC0 rfl rfl inX6 0 (by decide) rfl rfl flX6_12 rfl dX6_winner_11 rfl ?_
      refine J_getR (T := TX0) (f' := 8) (i' := 0) (pc1 := 17) (eC6 hnc.1) rfl rfl inX0 2 (by decide) rfl rfl flX6_272 rfl dX6_winner_14 rfl ?_
      refine J_iload_n (i := 1) (q := 1) (pc1 := 18) dX6_winner_17 rfl rfl rfl ?_
      obtain ⟨h5, h⟩ := gChk_s h
      refine J_iald (ix := (a1.toNatClampNeg)) (pc1 := 19) rfl (eC8 hnc.1) rfl h5 dX6_winner_18 rfl ?_
      refine J_iconst (v := (-1)) (pc1 := 20) dX6_winner_19 (by decide) rfl ?_
      refine J_icmp_ne (tgt := 34) (pc1 := 23) dX6_winner_20 (by decide) (fun q6 => ?_) rfl (fun q6 => ?_)
      · rw [if_neg q6] at h
        refine J_aload_n (i := 0) (q := 0) (pc1 := 35) dX6_winner_34 rfl rfl rfl ?_
        refine J_getR (T := TX6) (f' := 6) (i' := 0) (pc1 := 38) eC0 rfl rfl inX6 0 (by decide) rfl rfl flX6_12 rfl dX6_winner_35 rfl ?_
        refine J_getR (T := TX0) (f' := 8) (i' := 0) (pc1 := 41) (eC6 hnc.1) rfl rfl inX0 2 (by decide) rfl rfl flX6_272 rfl dX6_winner_38 rfl ?_
        refine J_iload_n (i := 1) (q := 1) (pc1 := 42) dX6_winner_41 rfl rfl rfl ?_
        obtain ⟨h7, h⟩ := gChk_s h
        refine J_iald (ix := (a1.toNatClampNeg)) (pc1 := 43) rfl (eC8 hnc.1) rfl h7 dX6_winner_42 rfl ?_
        cases h
        exact J_iret hr hlk dX6_winner_43
      · rw [if_pos q6] at h
        refine J_sub [] (lv1 := []) rfl ?_
        exact kj1 ()  h
set_option maxHeartbeats 4000000 in
set_option maxRecDepth 100000 in
theorem tX6_winner (l : Launch) (D : va_G) (tc : Nat → ClassId) (sa : Nat → Nat) (ad : Nat → Nat → Nat) (nc : Nat) (hnc : 0 < nc ∧ nc ≤ 2) (hI : gI (gE_C nc) ad) (a1 : Int32) (μ : gM) (hlz : l.stackTraces = false) (E0 : String) (μ' : gM) (h : mX6_winner nc a1 μ = some (.inl (E0, μ'))) : gMetX l yX6_winner cX6_winner 2 (some .int) ({ frames := 6, cells := 1, slots := 6, locals := 100 } : Room) D (gE_C nc) gkd_C tc ad (grh_C nc) sa [.ref (ad 0 0), .int a1] μ E0 μ' := by
  refine gMetX_of hI ⟨by decide +kernel, Nat.le_of_ble_eq_true rfl⟩ (fun p e s m args below meth c sz hr hlk hT => ?_)
  unfold mX6_winner at h
  show JCX p l e ({ frames := 6, cells := 1, slots := 6, locals := 100 } : Room) s m args below meth c cX6_winner 2 RX6 D tc sa ad nc sz E0 μ' μ 0 [(0, .ref (ad 0 0)), (1, .int a1)] []
  refine J_iload_n (i := 1) (q := 1) (pc1 := 1) dX6_winner_0 rfl rfl rfl ?_
  obtain ⟨j1, ej1, h⟩ := gJon_s h
  have kj1 : ∀ (u2 : Unit), j1 u2 = some (.inl (E0, μ')) → JCX p l e ({ frames := 6, cells := 1, slots := 6, locals := 100 } : Room) s m args below meth c cX6_winner 2 RX6 D tc sa ad nc sz E0 μ' μ 23 [] [] := by
    intro u2 h
    rw [ej1] at h
    try dsimp only at h
    cases h
    exact J_throwSWx (i := 18) (text := jsT 18) hlz hT xb_NoSuchElementException xf_NoSuchElementException clX6_267 ini_NoSuchElementException ⟨by decide, rfl, rfl, rfl⟩ (xh_NoSuchElementException clX6_267) hlk dX6_winner_23 dX6_winner_26 dX6_winner_27 dX6_winner_30 dX6_winner_33 ⟨by decide, by decide, by decide, by decide⟩
  clear ej1
  refine J_if_lt (tgt := 23) (pc1 := 4) dX6_winner_1 (by decide) (fun q3 => ?_) rfl (fun q3 => ?_)
  · rw [if_pos q3] at h
    refine J_sub [] (lv1 := []) rfl ?_
    exact kj1 ()  h
  · rw [if_neg q3] at h
    refine J_iload_n (i := 1) (q := 1) (pc1 := 5) dX6_winner_4 rfl rfl rfl ?_
    refine J_bipush (v := 100) (pc1 := 7) dX6_winner_5 (by decide) rfl ?_
    refine J_icmp_ge (tgt := 23) (pc1 := 10) dX6_winner_7 (by decide) (fun q4 => ?_) rfl (fun q4 => ?_)
    · rw [if_pos q4] at h
      refine J_sub [] (lv1 := []) rfl ?_
      exact kj1 ()  h
    · rw [if_neg q4] at h
      refine J_aload_n (i := 0) (q := 0) (pc1 := 11) dX6_winner_10 rfl rfl rfl ?_
      refine J_getR (T := TX6) (f' := 6) (i' := 0) (pc1 := 14) eC0 rfl rfl inX6 0 (by decide) rfl rfl flX6_12 rfl dX6_winner_11 rfl ?_
      refine J_getR (T := TX0) (f' := 8) (i' := 0) (pc1 := 17) (eC6 hnc.1) rfl rfl inX0 2 (by decide) rfl rfl flX6_272 rfl dX6_winner_14 rfl ?_
      refine J_iload_n (i := 1) (q := 1) (pc1 := 18) dX6_winner_17 rfl rfl rfl ?_
      obtain ⟨h5, h⟩ := gChk_s h
      refine J_iald (ix := (a1.toNatClampNeg)) (pc1 := 19) rfl (eC8 hnc.1) rfl h5 dX6_winner_18 rfl ?_
      refine J_iconst (v := (-1)) (pc1 := 20) dX6_winner_19 (by decide) rfl ?_
      refine J_icmp_ne (tgt := 34) (pc1 := 23) dX6_winner_20 (by decide) (fun q6 => ?_) rfl (fun q6 => ?_)
      · rw [if_neg q6] at h
        refine J_aload_n (i := 0) (q := 0) (pc1 := 35) dX6_winner_34 rfl rfl rfl ?_
        refine J_getR (T := TX6) (f' := 6) (i' := 0) (pc1 := 38) eC0 rfl rfl inX6 0 (by decide) rfl rfl flX6_12 rfl dX6_winner_35 rfl ?_
        refine J_getR (T := TX0) (f' := 8) (i' := 0) (pc1 := 41) (eC6 hnc.1) rfl rfl inX0 2 (by decide) rfl rfl flX6_272 rfl dX6_winner_38 rfl ?_
        refine J_iload_n (i := 1) (q := 1) (pc1 := 42) dX6_winner_41 rfl rfl rfl ?_
        obtain ⟨h7, h⟩ := gChk_s h
        refine J_iald (ix := (a1.toNatClampNeg)) (pc1 := 43) rfl (eC8 hnc.1) rfl h7 dX6_winner_42 rfl ?_
        cases h
      · rw [if_pos q6] at h
        refine J_sub [] (lv1 := []) rfl ?_
        exact kj1 ()  h
def mX6_alike (nc : Nat) (a1 : Int32) (a2 : Int32) (μ : gM) : Option (Sum (String × gM) (Int32)) :=
  gBx (mX6_replicaAt nc a1 μ) fun r2 =>
  gChk (r2 < 5 * nc) <|
  gBx (mX6_replicaAt nc a2 μ) fun r5 =>
  gChk (r5 < 5 * nc) <|
  gLet (α := Int32) (if (μ 12 r2 4) < (μ 12 r5 4) then (μ 12 r5 4) else (μ 12 r2 4)) fun x7 =>
  gBp (mX1_lastIndex nc r2 μ) fun r12 =>
  gBp (mX1_lastIndex nc r5 μ) fun r14 =>
  gLet (α := Int32) (if r14 < r12 then r14 else r12) fun x15 =>
  if x7 ≤ x15 then
    gJon (fun (x20 : Int32) =>
        some (.inr x20)) fun j21 =>
    gFx1 (fun rec23 (x22 : Int32) =>
        if x15 ≤ x22 then
          j21 x22
        else
          gBp (mX1_termAt nc r2 (x22 + 1) μ) fun r26 =>
          gBp (mX1_termAt nc r5 (x22 + 1) μ) fun r28 =>
          if r26 = r28 then
            rec23 (x22 + 1)
          else
            j21 x22) 1000000 x7
  else
    some (.inr (-1))
set_option maxHeartbeats 4000000 in
set_option maxRecDepth 100000 in
theorem kX6_alike (l : Launch) (D : va_G) (tc : Nat → ClassId) (sa : Nat → Nat) (ad : Nat → Nat → Nat) (nc : Nat) (hnc : 0 < nc ∧ nc ≤ 2) (hI : gI (gE_C nc) ad) (a1 : Int32) (a2 : Int32) (μ : gM) (r : Int32) (h : mX6_alike nc a1 a2 μ = some (.inr r)) : gMet l yX6_alike cX6_alike 7 (some .int) ({ frames := 2, cells := 0, slots := 0, locals := 45 } : Room) D (gE_C nc) gkd_C tc ad (grh_C nc) sa [.ref (ad 0 0), .int a1, .int a2] μ (some (.int r)) μ := by
  refine gMet_of hI ⟨by decide +kernel, Nat.le_of_ble_eq_true rfl⟩ (fun p e s m args below meth c sz hr hlk => ?_)
  unfold mX6_alike at h
  show JC p l e ({ frames := 2, cells := 0, slots := 0, locals := 45 } : Room) s m args below meth c cX6_alike 7 RX6 D tc sa ad nc sz (some (.int r)) μ μ 0 [(0, .ref (ad 0 0)), (1, .int a1), (2, .int a2)] []
  refine J_aload_n (i := 0) (q := 0) (pc1 := 1) dX6_alike_0 rfl rfl rfl ?_
  refine J_iload_n (i := 1) (q := 1) (pc1 := 2) dX6_alike_1 rfl rfl rfl ?_
  obtain ⟨r2, hc1, h⟩ := gBx_r h
  obtain ⟨h3, h⟩ := gChk_s h
  refine J_callV (As := [.int a1]) (ad := ad) (f := 0) (i := 0) (st := []) (st1 := [.ref (ad 11 r2)]) (pc1 := 5) (kX6_replicaAt l D tc sa ad nc hnc hI a1 μ r2 hc1) wcX6_replicaAt wlX6_93 eC0 rfl rfl rfl ⟨rfl, rfl, Nat.le_of_ble_eq_true rfl, Nat.le_of_ble_eq_true rfl⟩ ⟨Nat.zero_le _, Nat.zero_le _⟩ (Nat.le_of_ble_eq_true rfl) dX6_alike_2 rfl rfl ?_
  refine J_getR (T := TX4) (f' := 12) (i' := r2) (pc1 := 8) (eC11 h3) rfl rfl inX4 1 (by decide) rfl rfl flX6_120 rfl dX6_alike_5 rfl ?_
  refine J_astore_n (i := 3) (lv1 := [(3, .ref (ad 12 r2)), (0, .ref (ad 0 0)), (1, .int a1), (2, .int a2)]) (pc1 := 9) dX6_alike_8 rfl (by decide) rfl rfl ?_
  refine J_aload_n (i := 0) (q := 1) (pc1 := 10) dX6_alike_9 rfl rfl rfl ?_
  refine J_iload_n (i := 2) (q := 3) (pc1 := 11) dX6_alike_10 rfl rfl rfl ?_
  obtain ⟨r5, hc4, h⟩ := gBx_r h
  obtain ⟨h6, h⟩ := gChk_s h
  refine J_callV (As := [.int a2]) (ad := ad) (f := 0) (i := 0) (st := []) (st1 := [.ref (ad 11 r5)]) (pc1 := 14) (kX6_replicaAt l D tc sa ad nc hnc hI a2 μ r5 hc4) wcX6_replicaAt wlX6_93 eC0 rfl rfl rfl ⟨rfl, rfl, Nat.le_of_ble_eq_true rfl, Nat.le_of_ble_eq_true rfl⟩ ⟨Nat.zero_le _, Nat.zero_le _⟩ (Nat.le_of_ble_eq_true rfl) dX6_alike_11 rfl rfl ?_
  refine J_getR (T := TX4) (f' := 12) (i' := r5) (pc1 := 17) (eC11 h6) rfl rfl inX4 1 (by decide) rfl rfl flX6_120 rfl dX6_alike_14 rfl ?_
  refine J_astore (i := 4) (lv1 := [(4, .ref (ad 12 r5)), (3, .ref (ad 12 r2)), (0, .ref (ad 0 0)), (1, .int a1), (2, .int a2)]) (pc1 := 19) dX6_alike_17 (by decide) rfl rfl ?_
  refine J_aload_n (i := 3) (q := 1) (pc1 := 20) dX6_alike_19 rfl rfl rfl ?_
  refine J_getI (T := TX1) (pc1 := 23) (eC12 h3) rfl rfl inX1 4 (by decide) rfl flX6_181 rfl dX6_alike_20 rfl ?_
  refine J_aload (i := 4) (q := 0) (pc1 := 25) dX6_alike_23 rfl rfl ?_
  refine J_getI (T := TX1) (pc1 := 28) (eC12 h6) rfl rfl inX1 4 (by decide) rfl flX6_181 rfl dX6_alike_25 rfl ?_
  refine J_mmax (pc1 := 31) wlX6_277 stMmax iniMath cdMmax ⟨Nat.le_of_ble_eq_true rfl, Nat.le_of_ble_eq_true rfl, Nat.zero_le _, Nat.zero_le _⟩ dX6_alike_28 rfl ?_
  obtain ⟨x7, e9, h⟩ := gLet_s h
  refine J_top (fun y8 e10 => ?_)
  have e10x : x7 = y8 := (e10.trans e9.symm).symm
  subst e10x
  refine J_istore (i := 5) (lv1 := [(5, .int x7), (4, .ref (ad 12 r5)), (3, .ref (ad 12 r2)), (0, .ref (ad 0 0)), (1, .int a1), (2, .int a2)]) (pc1 := 33) dX6_alike_31 (by decide) rfl rfl ?_
  refine J_aload_n (i := 3) (q := 2) (pc1 := 34) dX6_alike_33 rfl rfl rfl ?_
  obtain ⟨r12, hc11, h⟩ := gBp_s h
  refine J_callV (As := []) (ad := ad) (f := 12) (i := r2) (st := []) (st1 := [.int r12]) (pc1 := 37) (kX1_lastIndex l D tc sa ad nc hnc hI r2 h3 μ r12 hc11) wcX1_lastIndex wlX6_124 (eC12 h3) rfl rfl rfl ⟨rfl, rfl, Nat.le_of_ble_eq_true rfl, Nat.le_of_ble_eq_true rfl⟩ ⟨Nat.zero_le _, Nat.zero_le _⟩ (Nat.le_of_ble_eq_true rfl) dX6_alike_34 rfl rfl ?_
  refine J_aload (i := 4) (q := 1) (pc1 := 39) dX6_alike_37 rfl rfl ?_
  obtain ⟨r14, hc13, h⟩ := gBp_s h
  refine J_callV (As := []) (ad := ad) (f := 12) (i := r5) (st := [.int r12]) (st1 := [.int r14, .int r12]) (pc1 := 42) (kX1_lastIndex l D tc sa ad nc hnc hI r5 h6 μ r14 hc13) wcX1_lastIndex wlX6_124 (eC12 h6) rfl rfl rfl ⟨rfl, rfl, Nat.le_of_ble_eq_true rfl, Nat.le_of_ble_eq_true rfl⟩ ⟨Nat.zero_le _, Nat.zero_le _⟩ (Nat.le_of_ble_eq_true rfl) dX6_alike_39 rfl rfl ?_
  refine J_mmin (pc1 := 45) wlX6_283 stMmin iniMath cdMmin ⟨Nat.le_of_ble_eq_true rfl, Nat.le_of_ble_eq_true rfl, Nat.zero_le _, Nat.zero_le _⟩ dX6_alike_42 rfl ?_
  obtain ⟨x15, e17, h⟩ := gLet_s h
  refine J_top (fun y16 e18 => ?_)
  have e18x : x15 = y16 := (e18.trans e17.symm).symm
  subst e18x
  refine J_istore (i := 6) (lv1 := [(6, .int x15), (5, .int x7), (4, .ref (ad 12 r5)), (3, .ref (ad 12 r2)), (0, .ref (ad 0 0)), (1, .int a1), (2, .int a2)]) (pc1 := 47) dX6_alike_45 (by decide) rfl rfl ?_
  refine J_iload (i := 5) (q := 1) (pc1 := 49) dX6_alike_47 rfl rfl ?_
  refine J_iload (i := 6) (q := 0) (pc1 := 51) dX6_alike_49 rfl rfl ?_
  refine J_icmp_le (tgt := 56) (pc1 := 54) dX6_alike_51 (by decide) (fun q19 => ?_) rfl (fun q19 => ?_)
  · rw [if_pos q19] at h
    obtain ⟨j21, ej21, h⟩ := gJon_s h
    have kj21 : ∀ (x20 : Int32), j21 x20 = some (.inr r) → JC p l e ({ frames := 2, cells := 0, slots := 0, locals := 45 } : Room) s m args below meth c cX6_alike 7 RX6 D tc sa ad nc sz (some (.int r)) μ μ 89 [(5, .int x20)] [] := by
      intro x20 h
      rw [ej21] at h
      try dsimp only at h
      refine J_iload (i := 5) (q := 0) (pc1 := 91) dX6_alike_89 rfl rfl ?_
      cases h
      exact J_iret hr hlk dX6_alike_91
    clear ej21
    refine J_sub [3, 2, 1, 0] (lv1 := [(3, .ref (ad 12 r2)), (4, .ref (ad 12 r5)), (5, .int x7), (6, .int x15)]) rfl ?_
    refine gFx1_s (P := fun x22 => JC p l e ({ frames := 2, cells := 0, slots := 0, locals := 45 } : Room) s m args below meth c cX6_alike 7 RX6 D tc sa ad nc sz (some (.int r)) μ μ 56 [(3, .ref (ad 12 r2)), (4, .ref (ad 12 r5)), (5, .int x22), (6, .int x15)] []) (fun rec23 ihrec23 x22 h => ?_) _ _ h
    try dsimp only at h
    refine J_iload (i := 5) (q := 2) (pc1 := 58) dX6_alike_56 rfl rfl ?_
    refine J_iload (i := 6) (q := 3) (pc1 := 60) dX6_alike_58 rfl rfl ?_
    refine J_icmp_ge (tgt := 89) (pc1 := 63) dX6_alike_60 (by decide) (fun q24 => ?_) rfl (fun q24 => ?_)
    · rw [if_pos q24] at h
      refine J_sub [2] (lv1 := [(5, .int x22)]) rfl ?_
      exact kj21 _ h
    · rw [if_neg q24] at h
      refine J_aload_n (i := 3) (q := 0) (pc1 := 64) dX6_alike_63 rfl rfl rfl ?_
      refine J_iload (i := 5) (q := 2) (pc1 := 66) dX6_alike_64 rfl rfl ?_
      refine J_iconst (v := 1) (pc1 := 67) dX6_alike_66 (by decide) rfl ?_
      refine J_iadd (pc1 := 68) dX6_alike_67 rfl ?_
      obtain ⟨r26, hc25, h⟩ := gBp_s h
      refine J_callV (As := [.int (x22 + 1)]) (ad := ad) (f := 12) (i := r2) (st := []) (st1 := [.int r26]) (pc1 := 71) (kX1_termAt l D tc sa ad nc hnc hI r2 h3 (x22 + 1) μ r26 hc25) wcX1_termAt wlX6_215 (eC12 h3) rfl rfl rfl ⟨rfl, rfl, Nat.le_of_ble_eq_true rfl, Nat.le_of_ble_eq_true rfl⟩ ⟨Nat.zero_le _, Nat.zero_le _⟩ (Nat.le_of_ble_eq_true rfl) dX6_alike_68 rfl rfl ?_
      refine J_aload (i := 4) (q := 1) (pc1 := 73) dX6_alike_71 rfl rfl ?_
      refine J_iload (i := 5) (q := 2) (pc1 := 75) dX6_alike_73 rfl rfl ?_
      refine J_iconst (v := 1) (pc1 := 76) dX6_alike_75 (by decide) rfl ?_
      refine J_iadd (pc1 := 77) dX6_alike_76 rfl ?_
      obtain ⟨r28, hc27, h⟩ := gBp_s h
      refine J_callV (As := [.int (x22 + 1)]) (ad := ad) (f := 12) (i := r5) (st := [.int r26]) (st1 := [.int r28, .int r26]) (pc1 := 80) (kX1_termAt l D tc sa ad nc hnc hI r5 h6 (x22 + 1) μ r28 hc27) wcX1_termAt wlX6_215 (eC12 h6) rfl rfl rfl ⟨rfl, rfl, Nat.le_of_ble_eq_true rfl, Nat.le_of_ble_eq_true rfl⟩ ⟨Nat.zero_le _, Nat.zero_le _⟩ (Nat.le_of_ble_eq_true rfl) dX6_alike_77 rfl rfl ?_
      refine J_icmp_ne (tgt := 89) (pc1 := 83) dX6_alike_80 (by decide) (fun q29 => ?_) rfl (fun q29 => ?_)
      · rw [if_neg q29] at h
        refine J_sub [2] (lv1 := [(5, .int x22)]) rfl ?_
        exact kj21 _ h
      · rw [if_pos q29] at h
        refine J_iinc (i := 5) (q := 2) (v := x22 + 1) (lv1 := [(5, .int (x22 + 1)), (3, .ref (ad 12 r2)), (4, .ref (ad 12 r5)), (6, .int x15)]) (pc1 := 86) dX6_alike_83 rfl rfl (by decide) rfl rfl ?_
        refine J_goto (tgt := 56) dX6_alike_86 (by decide) ?_
        refine J_sub [1, 2, 0, 3] (lv1 := [(3, .ref (ad 12 r2)), (4, .ref (ad 12 r5)), (5, .int (x22 + 1)), (6, .int x15)]) rfl ?_
        exact ihrec23 _ h
  · rw [if_neg q19] at h
    refine J_iconst (v := (-1)) (pc1 := 55) dX6_alike_54 (by decide) rfl ?_
    cases h
    exact J_iret hr hlk dX6_alike_55
set_option maxHeartbeats 4000000 in
set_option maxRecDepth 100000 in
theorem tX6_alike (l : Launch) (D : va_G) (tc : Nat → ClassId) (sa : Nat → Nat) (ad : Nat → Nat → Nat) (nc : Nat) (hnc : 0 < nc ∧ nc ≤ 2) (hI : gI (gE_C nc) ad) (a1 : Int32) (a2 : Int32) (μ : gM) (hlz : l.stackTraces = false) (E0 : String) (μ' : gM) (h : mX6_alike nc a1 a2 μ = some (.inl (E0, μ'))) : gMetX l yX6_alike cX6_alike 7 (some .int) ({ frames := 7, cells := 1, slots := 6, locals := 121 } : Room) D (gE_C nc) gkd_C tc ad (grh_C nc) sa [.ref (ad 0 0), .int a1, .int a2] μ E0 μ' := by
  refine gMetX_of hI ⟨by decide +kernel, Nat.le_of_ble_eq_true rfl⟩ (fun p e s m args below meth c sz hr hlk hT => ?_)
  unfold mX6_alike at h
  show JCX p l e ({ frames := 7, cells := 1, slots := 6, locals := 121 } : Room) s m args below meth c cX6_alike 7 RX6 D tc sa ad nc sz E0 μ' μ 0 [(0, .ref (ad 0 0)), (1, .int a1), (2, .int a2)] []
  refine J_aload_n (i := 0) (q := 0) (pc1 := 1) dX6_alike_0 rfl rfl rfl ?_
  refine J_iload_n (i := 1) (q := 1) (pc1 := 2) dX6_alike_1 rfl rfl rfl ?_
  rcases gBx_l h with hc1 | ⟨r2, hc1, h⟩
  · exact J_callX (As := [.int a1]) (ad := ad) (f := 0) (i := 0) (st := []) hT (tX6_replicaAt l D tc sa ad nc hnc hI a1 μ hlz E0 μ' hc1) wcX6_replicaAt wlX6_93 eC0 rfl rfl rfl ⟨rfl, rfl, Nat.le_of_ble_eq_true rfl, Nat.le_of_ble_eq_true rfl⟩ ⟨by decide, by decide⟩ (Nat.le_of_ble_eq_true rfl) hlk dX6_alike_2
  obtain ⟨h3, h⟩ := gChk_s h
  refine J_callV (As := [.int a1]) (ad := ad) (f := 0) (i := 0) (st := []) (st1 := [.ref (ad 11 r2)]) (pc1 := 5) (kX6_replicaAt l D tc sa ad nc hnc hI a1 μ r2 hc1) wcX6_replicaAt wlX6_93 eC0 rfl rfl rfl ⟨rfl, rfl, Nat.le_of_ble_eq_true rfl, Nat.le_of_ble_eq_true rfl⟩ ⟨Nat.zero_le _, Nat.zero_le _⟩ (Nat.le_of_ble_eq_true rfl) dX6_alike_2 rfl rfl ?_
  refine J_getR (T := TX4) (f' := 12) (i' := r2) (pc1 := 8) (eC11 h3) rfl rfl inX4 1 (by decide) rfl rfl flX6_120 rfl dX6_alike_5 rfl ?_
  refine J_astore_n (i := 3) (lv1 := [(3, .ref (ad 12 r2)), (0, .ref (ad 0 0)), (1, .int a1), (2, .int a2)]) (pc1 := 9) dX6_alike_8 rfl (by decide) rfl rfl ?_
  refine J_aload_n (i := 0) (q := 1) (pc1 := 10) dX6_alike_9 rfl rfl rfl ?_
  refine J_iload_n (i := 2) (q := 3) (pc1 := 11) dX6_alike_10 rfl rfl rfl ?_
  rcases gBx_l h with hc4 | ⟨r5, hc4, h⟩
  · exact J_callX (As := [.int a2]) (ad := ad) (f := 0) (i := 0) (st := []) hT (tX6_replicaAt l D tc sa ad nc hnc hI a2 μ hlz E0 μ' hc4) wcX6_replicaAt wlX6_93 eC0 rfl rfl rfl ⟨rfl, rfl, Nat.le_of_ble_eq_true rfl, Nat.le_of_ble_eq_true rfl⟩ ⟨by decide, by decide⟩ (Nat.le_of_ble_eq_true rfl) hlk dX6_alike_11
  obtain ⟨h6, h⟩ := gChk_s h
  refine J_callV (As := [.int a2]) (ad := ad) (f := 0) (i := 0) (st := []) (st1 := [.ref (ad 11 r5)]) (pc1 := 14) (kX6_replicaAt l D tc sa ad nc hnc hI a2 μ r5 hc4) wcX6_replicaAt wlX6_93 eC0 rfl rfl rfl ⟨rfl, rfl, Nat.le_of_ble_eq_true rfl, Nat.le_of_ble_eq_true rfl⟩ ⟨Nat.zero_le _, Nat.zero_le _⟩ (Nat.le_of_ble_eq_true rfl) dX6_alike_11 rfl rfl ?_
  refine J_getR (T := TX4) (f' := 12) (i' := r5) (pc1 := 17) (eC11 h6) rfl rfl inX4 1 (by decide) rfl rfl flX6_120 rfl dX6_alike_14 rfl ?_
  refine J_astore (i := 4) (lv1 := [(4, .ref (ad 12 r5)), (3, .ref (ad 12 r2)), (0, .ref (ad 0 0)), (1, .int a1), (2, .int a2)]) (pc1 := 19) dX6_alike_17 (by decide) rfl rfl ?_
  refine J_aload_n (i := 3) (q := 1) (pc1 := 20) dX6_alike_19 rfl rfl rfl ?_
  refine J_getI (T := TX1) (pc1 := 23) (eC12 h3) rfl rfl inX1 4 (by decide) rfl flX6_181 rfl dX6_alike_20 rfl ?_
  refine J_aload (i := 4) (q := 0) (pc1 := 25) dX6_alike_23 rfl rfl ?_
  refine J_getI (T := TX1) (pc1 := 28) (eC12 h6) rfl rfl inX1 4 (by decide) rfl flX6_181 rfl dX6_alike_25 rfl ?_
  refine J_mmax (pc1 := 31) wlX6_277 stMmax iniMath cdMmax ⟨Nat.le_of_ble_eq_true rfl, Nat.le_of_ble_eq_true rfl, Nat.zero_le _, Nat.zero_le _⟩ dX6_alike_28 rfl ?_
  obtain ⟨x7, e9, h⟩ := gLet_s h
  refine J_top (fun y8 e10 => ?_)
  have e10x : x7 = y8 := (e10.trans e9.symm).symm
  subst e10x
  refine J_istore (i := 5) (lv1 := [(5, .int x7), (4, .ref (ad 12 r5)), (3, .ref (ad 12 r2)), (0, .ref (ad 0 0)), (1, .int a1), (2, .int a2)]) (pc1 := 33) dX6_alike_31 (by decide) rfl rfl ?_
  refine J_aload_n (i := 3) (q := 2) (pc1 := 34) dX6_alike_33 rfl rfl rfl ?_
  obtain ⟨r12, hc11, h⟩ := gBp_s h
  refine J_callV (As := []) (ad := ad) (f := 12) (i := r2) (st := []) (st1 := [.int r12]) (pc1 := 37) (kX1_lastIndex l D tc sa ad nc hnc hI r2 h3 μ r12 hc11) wcX1_lastIndex wlX6_124 (eC12 h3) rfl rfl rfl ⟨rfl, rfl, Nat.le_of_ble_eq_true rfl, Nat.le_of_ble_eq_true rfl⟩ ⟨Nat.zero_le _, Nat.zero_le _⟩ (Nat.le_of_ble_eq_true rfl) dX6_alike_34 rfl rfl ?_
  refine J_aload (i := 4) (q := 1) (pc1 := 39) dX6_alike_37 rfl rfl ?_
  obtain ⟨r14, hc13, h⟩ := gBp_s h
  refine J_callV (As := []) (ad := ad) (f := 12) (i := r5) (st := [.int r12]) (st1 := [.int r14, .int r12]) (pc1 := 42) (kX1_lastIndex l D tc sa ad nc hnc hI r5 h6 μ r14 hc13) wcX1_lastIndex wlX6_124 (eC12 h6) rfl rfl rfl ⟨rfl, rfl, Nat.le_of_ble_eq_true rfl, Nat.le_of_ble_eq_true rfl⟩ ⟨Nat.zero_le _, Nat.zero_le _⟩ (Nat.le_of_ble_eq_true rfl) dX6_alike_39 rfl rfl ?_
  refine J_mmin (pc1 := 45) wlX6_283 stMmin iniMath cdMmin ⟨Nat.le_of_ble_eq_true rfl, Nat.le_of_ble_eq_true rfl, Nat.zero_le _, Nat.zero_le _⟩ dX6_alike_42 rfl ?_
  obtain ⟨x15, e17, h⟩ := gLet_s h
  refine J_top (fun y16 e18 => ?_)
  have e18x : x15 = y16 := (e18.trans e17.symm).symm
  subst e18x
  refine J_istore (i := 6) (lv1 := [(6, .int x15), (5, .int x7), (4, .ref (ad 12 r5)), (3, .ref (ad 12 r2)), (0, .ref (ad 0 0)), (1, .int a1), (2, .int a2)]) (pc1 := 47) dX6_alike_45 (by decide) rfl rfl ?_
  refine J_iload (i := 5) (q := 1) (pc1 := 49) dX6_alike_47 rfl rfl ?_
  refine J_iload (i := 6) (q := 0) (pc1 := 51) dX6_alike_49 rfl rfl ?_
  refine J_icmp_le (tgt := 56) (pc1 := 54) dX6_alike_51 (by decide) (fun q19 => ?_) rfl (fun q19 => ?_)
  · rw [if_pos q19] at h
    obtain ⟨j21, ej21, h⟩ := gJon_s h
    have kj21 : ∀ (x20 : Int32), j21 x20 = some (.inl (E0, μ')) → JCX p l e ({ frames := 7, cells := 1, slots := 6, locals := 121 } : Room) s m args below meth c cX6_alike 7 RX6 D tc sa ad nc sz E0 μ' μ 89 [(5, .int x20)] [] := by
      intro x20 h
      rw [ej21] at h
      try dsimp only at h
      refine J_iload (i := 5) (q := 0) (pc1 := 91) dX6_alike_89 rfl rfl ?_
      cases h
    clear ej21
    refine J_sub [3, 2, 1, 0] (lv1 := [(3, .ref (ad 12 r2)), (4, .ref (ad 12 r5)), (5, .int x7), (6, .int x15)]) rfl ?_
    refine gFx1_s (P := fun x22 => JCX p l e ({ frames := 7, cells := 1, slots := 6, locals := 121 } : Room) s m args below meth c cX6_alike 7 RX6 D tc sa ad nc sz E0 μ' μ 56 [(3, .ref (ad 12 r2)), (4, .ref (ad 12 r5)), (5, .int x22), (6, .int x15)] []) (fun rec23 ihrec23 x22 h => ?_) _ _ h
    try dsimp only at h
    refine J_iload (i := 5) (q := 2) (pc1 := 58) dX6_alike_56 rfl rfl ?_
    refine J_iload (i := 6) (q := 3) (pc1 := 60) dX6_alike_58 rfl rfl ?_
    refine J_icmp_ge (tgt := 89) (pc1 := 63) dX6_alike_60 (by decide) (fun q24 => ?_) rfl (fun q24 => ?_)
    · rw [if_pos q24] at h
      refine J_sub [2] (lv1 := [(5, .int x22)]) rfl ?_
      exact kj21 _ h
    · rw [if_neg q24] at h
      refine J_aload_n (i := 3) (q := 0) (pc1 := 64) dX6_alike_63 rfl rfl rfl ?_
      refine J_iload (i := 5) (q := 2) (pc1 := 66) dX6_alike_64 rfl rfl ?_
      refine J_iconst (v := 1) (pc1 := 67) dX6_alike_66 (by decide) rfl ?_
      refine J_iadd (pc1 := 68) dX6_alike_67 rfl ?_
      obtain ⟨r26, hc25, h⟩ := gBp_s h
      refine J_callV (As := [.int (x22 + 1)]) (ad := ad) (f := 12) (i := r2) (st := []) (st1 := [.int r26]) (pc1 := 71) (kX1_termAt l D tc sa ad nc hnc hI r2 h3 (x22 + 1) μ r26 hc25) wcX1_termAt wlX6_215 (eC12 h3) rfl rfl rfl ⟨rfl, rfl, Nat.le_of_ble_eq_true rfl, Nat.le_of_ble_eq_true rfl⟩ ⟨Nat.zero_le _, Nat.zero_le _⟩ (Nat.le_of_ble_eq_true rfl) dX6_alike_68 rfl rfl ?_
      refine J_aload (i := 4) (q := 1) (pc1 := 73) dX6_alike_71 rfl rfl ?_
      refine J_iload (i := 5) (q := 2) (pc1 := 75) dX6_alike_73 rfl rfl ?_
      refine J_iconst (v := 1) (pc1 := 76) dX6_alike_75 (by decide) rfl ?_
      refine J_iadd (pc1 := 77) dX6_alike_76 rfl ?_
      obtain ⟨r28, hc27, h⟩ := gBp_s h
      refine J_callV (As := [.int (x22 + 1)]) (ad := ad) (f := 12) (i := r5) (st := [.int r26]) (st1 := [.int r28, .int r26]) (pc1 := 80) (kX1_termAt l D tc sa ad nc hnc hI r5 h6 (x22 + 1) μ r28 hc27) wcX1_termAt wlX6_215 (eC12 h6) rfl rfl rfl ⟨rfl, rfl, Nat.le_of_ble_eq_true rfl, Nat.le_of_ble_eq_true rfl⟩ ⟨Nat.zero_le _, Nat.zero_le _⟩ (Nat.le_of_ble_eq_true rfl) dX6_alike_77 rfl rfl ?_
      refine J_icmp_ne (tgt := 89) (pc1 := 83) dX6_alike_80 (by decide) (fun q29 => ?_) rfl (fun q29 => ?_)
      · rw [if_neg q29] at h
        refine J_sub [2] (lv1 := [(5, .int x22)]) rfl ?_
        exact kj21 _ h
      · rw [if_pos q29] at h
        refine J_iinc (i := 5) (q := 2) (v := x22 + 1) (lv1 := [(5, .int (x22 + 1)), (3, .ref (ad 12 r2)), (4, .ref (ad 12 r5)), (6, .int x15)]) (pc1 := 86) dX6_alike_83 rfl rfl (by decide) rfl rfl ?_
        refine J_goto (tgt := 56) dX6_alike_86 (by decide) ?_
        refine J_sub [1, 2, 0, 3] (lv1 := [(3, .ref (ad 12 r2)), (4, .ref (ad 12 r5)), (5, .int (x22 + 1)), (6, .int x15)]) rfl ?_
        exact ihrec23 _ h
  · rw [if_neg q19] at h
    refine J_iconst (v := (-1)) (pc1 := 55) dX6_alike_54 (by decide) rfl ?_
    cases h
def mX6_statistic (nc : Nat) (a1 : Int32) (μ : gM) : Option (Sum (String × gM) (Int32)) :=
  gJon (fun (u2 : Unit) =>
      some (.inl ("java/lang/IllegalArgumentException", μ))) fun j1 =>
  if a1 < 0 then
    j1 () 
  else
    if a1 ≤ 6 then
      if a1 = 0 then
        some (.inr (μ 6 0 4))
      else if a1 = 1 then
        some (.inr (μ 9 0 6))
      else if a1 = 2 then
        some (.inr (μ 9 0 7))
      else if a1 = 3 then
        some (.inr (μ 6 0 5))
      else if a1 = 4 then
        some (.inr (μ 6 0 6))
      else if a1 = 5 then
        some (.inr (μ 6 0 7))
      else 
        some (.inr (μ 6 0 8))
    else
      j1 () 
set_option maxHeartbeats 4000000 in
set_option maxRecDepth 100000 in
theorem kX6_statistic (l : Launch) (D : va_G) (tc : Nat → ClassId) (sa : Nat → Nat) (ad : Nat → Nat → Nat) (nc : Nat) (hnc : 0 < nc ∧ nc ≤ 2) (hI : gI (gE_C nc) ad) (a1 : Int32) (μ : gM) (r : Int32) (h : mX6_statistic nc a1 μ = some (.inr r)) : gMet l yX6_statistic cX6_statistic 2 (some .int) ({ frames := 0, cells := 0, slots := 0, locals := 0 } : Room) D (gE_C nc) gkd_C tc ad (grh_C nc) sa [.ref (ad 0 0), .int a1] μ (some (.int r)) μ := by
  refine gMet_of hI ⟨by decide +kernel, Nat.le_of_ble_eq_true rfl⟩ (fun p e s m args below meth c sz hr hlk => ?_)
  unfold mX6_statistic at h
  show JC p l e ({ frames := 0, cells := 0, slots := 0, locals := 0 } : Room) s m args below meth c cX6_statistic 2 RX6 D tc sa ad nc sz (some (.int r)) μ μ 0 [(0, .ref (ad 0 0)), (1, .int a1)] []
  refine J_iload_n (i := 1) (q := 1) (pc1 := 1) dX6_statistic_0 rfl rfl rfl ?_
  obtain ⟨j1, ej1, h⟩ := gJon_s h
  have kj1 : ∀ (u2 : Unit), j1 u2 = some (.inr r) → JC p l e ({ frames := 0, cells := 0, slots := 0, locals := 0 } : Room) s m args below meth c cX6_statistic 2 RX6 D tc sa ad nc sz (some (.int r)) μ μ 10 [] [] := by
    intro u2 h
    rw [ej1] at h
    try dsimp only at h
    cases h
  clear ej1
  refine J_if_lt (tgt := 10) (pc1 := 4) dX6_statistic_1 (by decide) (fun q3 => ?_) rfl (fun q3 => ?_)
  · rw [if_pos q3] at h
    refine J_sub [] (lv1 := []) rfl ?_
    exact kj1 ()  h
  · rw [if_neg q3] at h
    refine J_iload_n (i := 1) (q := 1) (pc1 := 5) dX6_statistic_4 rfl rfl rfl ?_
    refine J_bipush (v := 6) (pc1 := 7) dX6_statistic_5 (by decide) rfl ?_
    refine J_icmp_le (tgt := 20) (pc1 := 10) dX6_statistic_7 (by decide) (fun q4 => ?_) rfl (fun q4 => ?_)
    · rw [if_pos q4] at h
      refine J_iload_n (i := 1) (q := 1) (pc1 := 21) dX6_statistic_20 rfl rfl rfl ?_
      by_cases q5 : a1 = 0
      · rw [if_pos q5] at h
        refine J_swIn (v := 0) (off := 39) (tgt := 60) dX6_statistic_21 q5 (by decide) ?_
        refine J_aload_n (i := 0) (q := 0) (pc1 := 61) dX6_statistic_60 rfl rfl rfl ?_
        refine J_getR (T := TX6) (f' := 6) (i' := 0) (pc1 := 64) eC0 rfl rfl inX6 0 (by decide) rfl rfl flX6_12 rfl dX6_statistic_61 rfl ?_
        refine J_getI (T := TX0) (pc1 := 67) (eC6 hnc.1) rfl rfl inX0 4 (by decide) rfl flX6_60 rfl dX6_statistic_64 rfl ?_
        cases h
        exact J_iret hr hlk dX6_statistic_67
      rw [if_neg q5] at h
      by_cases q6 : a1 = 1
      · rw [if_pos q6] at h
        refine J_swIn (v := 1) (off := 47) (tgt := 68) dX6_statistic_21 q6 (by decide) ?_
        refine J_aload_n (i := 0) (q := 0) (pc1 := 69) dX6_statistic_68 rfl rfl rfl ?_
        refine J_getR (T := TX6) (f' := 6) (i' := 0) (pc1 := 72) eC0 rfl rfl inX6 0 (by decide) rfl rfl flX6_12 rfl dX6_statistic_69 rfl ?_
        refine J_getR (T := TX0) (f' := 9) (i' := 0) (pc1 := 75) (eC6 hnc.1) rfl rfl inX0 1 (by decide) rfl rfl flX6_66 rfl dX6_statistic_72 rfl ?_
        refine J_getI (T := TX3) (pc1 := 78) (eC9 hnc.1) rfl rfl inX3 6 (by decide) rfl flX6_286 rfl dX6_statistic_75 rfl ?_
        cases h
        exact J_iret hr hlk dX6_statistic_78
      rw [if_neg q6] at h
      by_cases q7 : a1 = 2
      · rw [if_pos q7] at h
        refine J_swIn (v := 2) (off := 58) (tgt := 79) dX6_statistic_21 q7 (by decide) ?_
        refine J_aload_n (i := 0) (q := 0) (pc1 := 80) dX6_statistic_79 rfl rfl rfl ?_
        refine J_getR (T := TX6) (f' := 6) (i' := 0) (pc1 := 83) eC0 rfl rfl inX6 0 (by decide) rfl rfl flX6_12 rfl dX6_statistic_80 rfl ?_
        refine J_getR (T := TX0) (f' := 9) (i' := 0) (pc1 := 86) (eC6 hnc.1) rfl rfl inX0 1 (by decide) rfl rfl flX6_66 rfl dX6_statistic_83 rfl ?_
        refine J_getI (T := TX3) (pc1 := 89) (eC9 hnc.1) rfl rfl inX3 7 (by decide) rfl flX6_260 rfl dX6_statistic_86 rfl ?_
        cases h
        exact J_iret hr hlk dX6_statistic_89
      rw [if_neg q7] at h
      by_cases q8 : a1 = 3
      · rw [if_pos q8] at h
        refine J_swIn (v := 3) (off := 69) (tgt := 90) dX6_statistic_21 q8 (by decide) ?_
        refine J_aload_n (i := 0) (q := 0) (pc1 := 91) dX6_statistic_90 rfl rfl rfl ?_
        refine J_getR (T := TX6) (f' := 6) (i' := 0) (pc1 := 94) eC0 rfl rfl inX6 0 (by decide) rfl rfl flX6_12 rfl dX6_statistic_91 rfl ?_
        refine J_getI (T := TX0) (pc1 := 97) (eC6 hnc.1) rfl rfl inX0 5 (by decide) rfl flX6_289 rfl dX6_statistic_94 rfl ?_
        cases h
        exact J_iret hr hlk dX6_statistic_97
      rw [if_neg q8] at h
      by_cases q9 : a1 = 4
      · rw [if_pos q9] at h
        refine J_swIn (v := 4) (off := 77) (tgt := 98) dX6_statistic_21 q9 (by decide) ?_
        refine J_aload_n (i := 0) (q := 0) (pc1 := 99) dX6_statistic_98 rfl rfl rfl ?_
        refine J_getR (T := TX6) (f' := 6) (i' := 0) (pc1 := 102) eC0 rfl rfl inX6 0 (by decide) rfl rfl flX6_12 rfl dX6_statistic_99 rfl ?_
        refine J_getI (T := TX0) (pc1 := 105) (eC6 hnc.1) rfl rfl inX0 6 (by decide) rfl flX6_292 rfl dX6_statistic_102 rfl ?_
        cases h
        exact J_iret hr hlk dX6_statistic_105
      rw [if_neg q9] at h
      by_cases q10 : a1 = 5
      · rw [if_pos q10] at h
        refine J_swIn (v := 5) (off := 85) (tgt := 106) dX6_statistic_21 q10 (by decide) ?_
        refine J_aload_n (i := 0) (q := 0) (pc1 := 107) dX6_statistic_106 rfl rfl rfl ?_
        refine J_getR (T := TX6) (f' := 6) (i' := 0) (pc1 := 110) eC0 rfl rfl inX6 0 (by decide) rfl rfl flX6_12 rfl dX6_statistic_107 rfl ?_
        refine J_getI (T := TX0) (pc1 := 113) (eC6 hnc.1) rfl rfl inX0 7 (by decide) rfl flX6_295 rfl dX6_statistic_110 rfl ?_
        cases h
        exact J_iret hr hlk dX6_statistic_113
      rw [if_neg q10] at h
      refine J_swOut (tgt := 114) dX6_statistic_21 (by have := i32_ne (k := 0) q5 (by decide); have := i32_ne (k := 1) q6 (by decide); have := i32_ne (k := 2) q7 (by decide); have := i32_ne (k := 3) q8 (by decide); have := i32_ne (k := 4) q9 (by decide); have := i32_ne (k := 5) q10 (by decide); omega) (by decide) ?_
      refine J_aload_n (i := 0) (q := 0) (pc1 := 115) dX6_statistic_114 rfl rfl rfl ?_
      refine J_getR (T := TX6) (f' := 6) (i' := 0) (pc1 := 118) eC0 rfl rfl inX6 0 (by decide) rfl rfl flX6_12 rfl dX6_statistic_115 rfl ?_
      refine J_getI (T := TX0) (pc1 := 121) (eC6 hnc.1) rfl rfl inX0 8 (by decide) rfl flX6_298 rfl dX6_statistic_118 rfl ?_
      cases h
      exact J_iret hr hlk dX6_statistic_121
    · rw [if_neg q4] at h
      refine J_sub [] (lv1 := []) rfl ?_
      exact kj1 ()  h
set_option maxHeartbeats 4000000 in
set_option maxRecDepth 100000 in
theorem tX6_statistic (l : Launch) (D : va_G) (tc : Nat → ClassId) (sa : Nat → Nat) (ad : Nat → Nat → Nat) (nc : Nat) (hnc : 0 < nc ∧ nc ≤ 2) (hI : gI (gE_C nc) ad) (a1 : Int32) (μ : gM) (hlz : l.stackTraces = false) (E0 : String) (μ' : gM) (h : mX6_statistic nc a1 μ = some (.inl (E0, μ'))) : gMetX l yX6_statistic cX6_statistic 2 (some .int) ({ frames := 6, cells := 1, slots := 6, locals := 100 } : Room) D (gE_C nc) gkd_C tc ad (grh_C nc) sa [.ref (ad 0 0), .int a1] μ E0 μ' := by
  refine gMetX_of hI ⟨by decide +kernel, Nat.le_of_ble_eq_true rfl⟩ (fun p e s m args below meth c sz hr hlk hT => ?_)
  unfold mX6_statistic at h
  show JCX p l e ({ frames := 6, cells := 1, slots := 6, locals := 100 } : Room) s m args below meth c cX6_statistic 2 RX6 D tc sa ad nc sz E0 μ' μ 0 [(0, .ref (ad 0 0)), (1, .int a1)] []
  refine J_iload_n (i := 1) (q := 1) (pc1 := 1) dX6_statistic_0 rfl rfl rfl ?_
  obtain ⟨j1, ej1, h⟩ := gJon_s h
  have kj1 : ∀ (u2 : Unit), j1 u2 = some (.inl (E0, μ')) → JCX p l e ({ frames := 6, cells := 1, slots := 6, locals := 100 } : Room) s m args below meth c cX6_statistic 2 RX6 D tc sa ad nc sz E0 μ' μ 10 [] [] := by
    intro u2 h
    rw [ej1] at h
    try dsimp only at h
    cases h
    exact J_throwS (i := 16) (text := jsT 16) hlz hT xf_IllegalArgumentException clX6_38 ini_IllegalArgumentException ⟨by decide, rfl, rfl, rfl⟩ (xh_IllegalArgumentException clX6_38) hlk dX6_statistic_10 dX6_statistic_13 dX6_statistic_14 dX6_statistic_16 dX6_statistic_19 ⟨by decide, by decide, by decide, by decide⟩
  clear ej1
  refine J_if_lt (tgt := 10) (pc1 := 4) dX6_statistic_1 (by decide) (fun q3 => ?_) rfl (fun q3 => ?_)
  · rw [if_pos q3] at h
    refine J_sub [] (lv1 := []) rfl ?_
    exact kj1 ()  h
  · rw [if_neg q3] at h
    refine J_iload_n (i := 1) (q := 1) (pc1 := 5) dX6_statistic_4 rfl rfl rfl ?_
    refine J_bipush (v := 6) (pc1 := 7) dX6_statistic_5 (by decide) rfl ?_
    refine J_icmp_le (tgt := 20) (pc1 := 10) dX6_statistic_7 (by decide) (fun q4 => ?_) rfl (fun q4 => ?_)
    · rw [if_pos q4] at h
      refine J_iload_n (i := 1) (q := 1) (pc1 := 21) dX6_statistic_20 rfl rfl rfl ?_
      by_cases q5 : a1 = 0
      · rw [if_pos q5] at h
        refine J_swIn (v := 0) (off := 39) (tgt := 60) dX6_statistic_21 q5 (by decide) ?_
        refine J_aload_n (i := 0) (q := 0) (pc1 := 61) dX6_statistic_60 rfl rfl rfl ?_
        refine J_getR (T := TX6) (f' := 6) (i' := 0) (pc1 := 64) eC0 rfl rfl inX6 0 (by decide) rfl rfl flX6_12 rfl dX6_statistic_61 rfl ?_
        refine J_getI (T := TX0) (pc1 := 67) (eC6 hnc.1) rfl rfl inX0 4 (by decide) rfl flX6_60 rfl dX6_statistic_64 rfl ?_
        cases h
      rw [if_neg q5] at h
      by_cases q6 : a1 = 1
      · rw [if_pos q6] at h
        refine J_swIn (v := 1) (off := 47) (tgt := 68) dX6_statistic_21 q6 (by decide) ?_
        refine J_aload_n (i := 0) (q := 0) (pc1 := 69) dX6_statistic_68 rfl rfl rfl ?_
        refine J_getR (T := TX6) (f' := 6) (i' := 0) (pc1 := 72) eC0 rfl rfl inX6 0 (by decide) rfl rfl flX6_12 rfl dX6_statistic_69 rfl ?_
        refine J_getR (T := TX0) (f' := 9) (i' := 0) (pc1 := 75) (eC6 hnc.1) rfl rfl inX0 1 (by decide) rfl rfl flX6_66 rfl dX6_statistic_72 rfl ?_
        refine J_getI (T := TX3) (pc1 := 78) (eC9 hnc.1) rfl rfl inX3 6 (by decide) rfl flX6_286 rfl dX6_statistic_75 rfl ?_
        cases h
      rw [if_neg q6] at h
      by_cases q7 : a1 = 2
      · rw [if_pos q7] at h
        refine J_swIn (v := 2) (off := 58) (tgt := 79) dX6_statistic_21 q7 (by decide) ?_
        refine J_aload_n (i := 0) (q := 0) (pc1 := 80) dX6_statistic_79 rfl rfl rfl ?_
        refine J_getR (T := TX6) (f' := 6) (i' := 0) (pc1 := 83) eC0 rfl rfl inX6 0 (by decide) rfl rfl flX6_12 rfl dX6_statistic_80 rfl ?_
        refine J_getR (T := TX0) (f' := 9) (i' := 0) (pc1 := 86) (eC6 hnc.1) rfl rfl inX0 1 (by decide) rfl rfl flX6_66 rfl dX6_statistic_83 rfl ?_
        refine J_getI (T := TX3) (pc1 := 89) (eC9 hnc.1) rfl rfl inX3 7 (by decide) rfl flX6_260 rfl dX6_statistic_86 rfl ?_
        cases h
      rw [if_neg q7] at h
      by_cases q8 : a1 = 3
      · rw [if_pos q8] at h
        refine J_swIn (v := 3) (off := 69) (tgt := 90) dX6_statistic_21 q8 (by decide) ?_
        refine J_aload_n (i := 0) (q := 0) (pc1 := 91) dX6_statistic_90 rfl rfl rfl ?_
        refine J_getR (T := TX6) (f' := 6) (i' := 0) (pc1 := 94) eC0 rfl rfl inX6 0 (by decide) rfl rfl flX6_12 rfl dX6_statistic_91 rfl ?_
        refine J_getI (T := TX0) (pc1 := 97) (eC6 hnc.1) rfl rfl inX0 5 (by decide) rfl flX6_289 rfl dX6_statistic_94 rfl ?_
        cases h
      rw [if_neg q8] at h
      by_cases q9 : a1 = 4
      · rw [if_pos q9] at h
        refine J_swIn (v := 4) (off := 77) (tgt := 98) dX6_statistic_21 q9 (by decide) ?_
        refine J_aload_n (i := 0) (q := 0) (pc1 := 99) dX6_statistic_98 rfl rfl rfl ?_
        refine J_getR (T := TX6) (f' := 6) (i' := 0) (pc1 := 102) eC0 rfl rfl inX6 0 (by decide) rfl rfl flX6_12 rfl dX6_statistic_99 rfl ?_
        refine J_getI (T := TX0) (pc1 := 105) (eC6 hnc.1) rfl rfl inX0 6 (by decide) rfl flX6_292 rfl dX6_statistic_102 rfl ?_
        cases h
      rw [if_neg q9] at h
      by_cases q10 : a1 = 5
      · rw [if_pos q10] at h
        refine J_swIn (v := 5) (off := 85) (tgt := 106) dX6_statistic_21 q10 (by decide) ?_
        refine J_aload_n (i := 0) (q := 0) (pc1 := 107) dX6_statistic_106 rfl rfl rfl ?_
        refine J_getR (T := TX6) (f' := 6) (i' := 0) (pc1 := 110) eC0 rfl rfl inX6 0 (by decide) rfl rfl flX6_12 rfl dX6_statistic_107 rfl ?_
        refine J_getI (T := TX0) (pc1 := 113) (eC6 hnc.1) rfl rfl inX0 7 (by decide) rfl flX6_295 rfl dX6_statistic_110 rfl ?_
        cases h
      rw [if_neg q10] at h
      refine J_swOut (tgt := 114) dX6_statistic_21 (by have := i32_ne (k := 0) q5 (by decide); have := i32_ne (k := 1) q6 (by decide); have := i32_ne (k := 2) q7 (by decide); have := i32_ne (k := 3) q8 (by decide); have := i32_ne (k := 4) q9 (by decide); have := i32_ne (k := 5) q10 (by decide); omega) (by decide) ?_
      refine J_aload_n (i := 0) (q := 0) (pc1 := 115) dX6_statistic_114 rfl rfl rfl ?_
      refine J_getR (T := TX6) (f' := 6) (i' := 0) (pc1 := 118) eC0 rfl rfl inX6 0 (by decide) rfl rfl flX6_12 rfl dX6_statistic_115 rfl ?_
      refine J_getI (T := TX0) (pc1 := 121) (eC6 hnc.1) rfl rfl inX0 8 (by decide) rfl flX6_298 rfl dX6_statistic_118 rfl ?_
      cases h
    · rw [if_neg q4] at h
      refine J_sub [] (lv1 := []) rfl ?_
      exact kj1 ()  h
def mX6_feed (nc : Nat) (a1 : Int32) (μ : gM) : Option (Sum (String × gM) ((Int32 × gM))) :=
  gBp (mX5_isFull nc μ) fun r2 =>
  if r2 = 0 then
    gBp (mX5_add nc a1 μ) fun μ5 =>
    some (.inr (μ5 1 0 4, μ5))
  else
    some (.inl ("java/lang/IllegalStateException", μ))
set_option maxHeartbeats 4000000 in
set_option maxRecDepth 100000 in
theorem kX6_feed (l : Launch) (D : va_G) (tc : Nat → ClassId) (sa : Nat → Nat) (ad : Nat → Nat → Nat) (nc : Nat) (hnc : 0 < nc ∧ nc ≤ 2) (hI : gI (gE_C nc) ad) (a1 : Int32) (μ : gM) (r : Int32) (μ' : gM) (h : mX6_feed nc a1 μ = some (.inr (r, μ'))) : gMet l yX6_feed cX6_feed 2 (some .int) ({ frames := 1, cells := 0, slots := 0, locals := 21 } : Room) D (gE_C nc) gkd_C tc ad (grh_C nc) sa [.ref (ad 0 0), .int a1] μ (some (.int r)) μ' := by
  refine gMet_of hI ⟨by decide +kernel, Nat.le_of_ble_eq_true rfl⟩ (fun p e s m args below meth c sz hr hlk => ?_)
  unfold mX6_feed at h
  show JC p l e ({ frames := 1, cells := 0, slots := 0, locals := 21 } : Room) s m args below meth c cX6_feed 2 RX6 D tc sa ad nc sz (some (.int r)) μ' μ 0 [(0, .ref (ad 0 0)), (1, .int a1)] []
  refine J_aload_n (i := 0) (q := 0) (pc1 := 1) dX6_feed_0 rfl rfl rfl ?_
  refine J_getR (T := TX6) (f' := 1) (i' := 0) (pc1 := 4) eC0 rfl rfl inX6 2 (by decide) rfl rfl flX6_19 rfl dX6_feed_1 rfl ?_
  obtain ⟨r2, hc1, h⟩ := gBp_s h
  refine J_callV (As := []) (ad := ad) (f := 1) (i := 0) (st := []) (st1 := [.int r2]) (pc1 := 7) (kX5_isFull l D tc sa ad nc hnc hI  μ r2 hc1) wcX5_isFull wlX6_309 eC1 rfl rfl rfl ⟨rfl, rfl, Nat.le_of_ble_eq_true rfl, Nat.le_of_ble_eq_true rfl⟩ ⟨Nat.zero_le _, Nat.zero_le _⟩ (Nat.le_of_ble_eq_true rfl) dX6_feed_4 rfl rfl ?_
  refine J_if_eq (tgt := 21) (pc1 := 10) dX6_feed_7 (by decide) (fun q3 => ?_) rfl (fun q3 => ?_)
  · rw [if_pos q3] at h
    refine J_aload_n (i := 0) (q := 0) (pc1 := 22) dX6_feed_21 rfl rfl rfl ?_
    refine J_getR (T := TX6) (f' := 1) (i' := 0) (pc1 := 25) eC0 rfl rfl inX6 2 (by decide) rfl rfl flX6_19 rfl dX6_feed_22 rfl ?_
    refine J_iload_n (i := 1) (q := 1) (pc1 := 26) dX6_feed_25 rfl rfl rfl ?_
    obtain ⟨μ5, hc4, h⟩ := gBp_s h
    refine J_callV (As := [.int a1]) (ad := ad) (f := 1) (i := 0) (st := []) (st1 := []) (pc1 := 29) (kX5_add l D tc sa ad nc hnc hI a1 μ μ5 hc4) wcX5_add wlX6_312 eC1 rfl rfl rfl ⟨rfl, rfl, Nat.le_of_ble_eq_true rfl, Nat.le_of_ble_eq_true rfl⟩ ⟨Nat.zero_le _, Nat.zero_le _⟩ (Nat.le_of_ble_eq_true rfl) dX6_feed_26 rfl rfl ?_
    refine J_aload_n (i := 0) (q := 0) (pc1 := 30) dX6_feed_29 rfl rfl rfl ?_
    refine J_getR (T := TX6) (f' := 1) (i' := 0) (pc1 := 33) eC0 rfl rfl inX6 2 (by decide) rfl rfl flX6_19 rfl dX6_feed_30 rfl ?_
    refine J_getI (T := TX5) (pc1 := 36) eC1 rfl rfl inX5 4 (by decide) rfl flX6_315 rfl dX6_feed_33 rfl ?_
    cases h
    exact J_iret hr hlk dX6_feed_36
  · rw [if_neg q3] at h
    cases h
set_option maxHeartbeats 4000000 in
set_option maxRecDepth 100000 in
theorem tX6_feed (l : Launch) (D : va_G) (tc : Nat → ClassId) (sa : Nat → Nat) (ad : Nat → Nat → Nat) (nc : Nat) (hnc : 0 < nc ∧ nc ≤ 2) (hI : gI (gE_C nc) ad) (a1 : Int32) (μ : gM) (hlz : l.stackTraces = false) (E0 : String) (μ' : gM) (h : mX6_feed nc a1 μ = some (.inl (E0, μ'))) : gMetX l yX6_feed cX6_feed 2 (some .int) ({ frames := 6, cells := 1, slots := 6, locals := 100 } : Room) D (gE_C nc) gkd_C tc ad (grh_C nc) sa [.ref (ad 0 0), .int a1] μ E0 μ' := by
  refine gMetX_of hI ⟨by decide +kernel, Nat.le_of_ble_eq_true rfl⟩ (fun p e s m args below meth c sz hr hlk hT => ?_)
  unfold mX6_feed at h
  show JCX p l e ({ frames := 6, cells := 1, slots := 6, locals := 100 } : Room) s m args below meth c cX6_feed 2 RX6 D tc sa ad nc sz E0 μ' μ 0 [(0, .ref (ad 0 0)), (1, .int a1)] []
  refine J_aload_n (i := 0) (q := 0) (pc1 := 1) dX6_feed_0 rfl rfl rfl ?_
  refine J_getR (T := TX6) (f' := 1) (i' := 0) (pc1 := 4) eC0 rfl rfl inX6 2 (by decide) rfl rfl flX6_19 rfl dX6_feed_1 rfl ?_
  obtain ⟨r2, hc1, h⟩ := gBp_s h
  refine J_callV (As := []) (ad := ad) (f := 1) (i := 0) (st := []) (st1 := [.int r2]) (pc1 := 7) (kX5_isFull l D tc sa ad nc hnc hI  μ r2 hc1) wcX5_isFull wlX6_309 eC1 rfl rfl rfl ⟨rfl, rfl, Nat.le_of_ble_eq_true rfl, Nat.le_of_ble_eq_true rfl⟩ ⟨Nat.zero_le _, Nat.zero_le _⟩ (Nat.le_of_ble_eq_true rfl) dX6_feed_4 rfl rfl ?_
  refine J_if_eq (tgt := 21) (pc1 := 10) dX6_feed_7 (by decide) (fun q3 => ?_) rfl (fun q3 => ?_)
  · rw [if_pos q3] at h
    refine J_aload_n (i := 0) (q := 0) (pc1 := 22) dX6_feed_21 rfl rfl rfl ?_
    refine J_getR (T := TX6) (f' := 1) (i' := 0) (pc1 := 25) eC0 rfl rfl inX6 2 (by decide) rfl rfl flX6_19 rfl dX6_feed_22 rfl ?_
    refine J_iload_n (i := 1) (q := 1) (pc1 := 26) dX6_feed_25 rfl rfl rfl ?_
    obtain ⟨μ5, hc4, h⟩ := gBp_s h
    refine J_callV (As := [.int a1]) (ad := ad) (f := 1) (i := 0) (st := []) (st1 := []) (pc1 := 29) (kX5_add l D tc sa ad nc hnc hI a1 μ μ5 hc4) wcX5_add wlX6_312 eC1 rfl rfl rfl ⟨rfl, rfl, Nat.le_of_ble_eq_true rfl, Nat.le_of_ble_eq_true rfl⟩ ⟨Nat.zero_le _, Nat.zero_le _⟩ (Nat.le_of_ble_eq_true rfl) dX6_feed_26 rfl rfl ?_
    refine J_aload_n (i := 0) (q := 0) (pc1 := 30) dX6_feed_29 rfl rfl rfl ?_
    refine J_getR (T := TX6) (f' := 1) (i' := 0) (pc1 := 33) eC0 rfl rfl inX6 2 (by decide) rfl rfl flX6_19 rfl dX6_feed_30 rfl ?_
    refine J_getI (T := TX5) (pc1 := 36) eC1 rfl rfl inX5 4 (by decide) rfl flX6_315 rfl dX6_feed_33 rfl ?_
    cases h
  · rw [if_neg q3] at h
    cases h
    exact J_throwSW (i := 20) (text := jsT 20) hlz hT xf_IllegalStateException clX6_103 ini_IllegalStateException ⟨by decide, rfl, rfl, rfl⟩ (xh_IllegalStateException clX6_103) hlk dX6_feed_10 dX6_feed_13 dX6_feed_14 dX6_feed_17 dX6_feed_20 ⟨by decide, by decide, by decide, by decide⟩
def mX6_carryOut (nc : Nat) (a1 : Int32) (a2 : Int32) (a3 : Int32) (μ : gM) : Option (Sum (String × gM) (gM)) :=
  if a1 = 0 then
    gBp (mX0_advance nc 0 a2 μ) fun μ40 =>
    some (.inr μ40)
  else
    gBx (mX6_replicaAt nc a2 μ) fun r3 =>
    gChk (r3 < 5 * nc) <|
    if a1 = 1 then
      gBp (mX4_goDown nc r3 μ) fun μ7 =>
      some (.inr μ7)
    else if a1 = 2 then
      gBp (mX0_revive nc 0 r3 μ) fun μ10 =>
      some (.inr μ10)
    else if a1 = 3 then
      gLet (α := Int32) (if a1 = 3 then 1 else 0) fun x12 =>
      gBp (mX3_setCut nc 0 a2 a3 x12 μ) fun μ17 =>
      some (.inr μ17)
    else if a1 = 4 then
      gLet (α := Int32) (if a1 = 3 then 1 else 0) fun x19 =>
      gBp (mX3_setCut nc 0 a2 a3 x19 μ) fun μ24 =>
      some (.inr μ24)
    else if a1 = 5 then
      gBd (mX0_add nc 0 r3 0 a3 μ) fun r27 μ28 =>
      some (.inr μ28)
    else if a1 = 6 then
      gBd (mX1_packTo nc r3 (μ 11 r3 9) μ) fun r31 μ32 =>
      some (.inr μ32)
    else 
      gLet (α := Int32) (if a1 = 3 then 1 else 0) fun x33 =>
      gBp (mX3_setCut nc 0 a2 a3 x33 μ) fun μ38 =>
      some (.inr μ38)
set_option maxHeartbeats 4000000 in
set_option maxRecDepth 100000 in
theorem kX6_carryOut (l : Launch) (D : va_G) (tc : Nat → ClassId) (sa : Nat → Nat) (ad : Nat → Nat → Nat) (nc : Nat) (hnc : 0 < nc ∧ nc ≤ 2) (hI : gI (gE_C nc) ad) (a1 : Int32) (a2 : Int32) (a3 : Int32) (μ : gM) (μ' : gM) (h : mX6_carryOut nc a1 a2 a3 μ = some (.inr μ')) : gMet l yX6_carryOut cX6_carryOut 5 (none) ({ frames := 6, cells := 0, slots := 0, locals := 192 } : Room) D (gE_C nc) gkd_C tc ad (grh_C nc) sa [.ref (ad 0 0), .int a1, .int a2, .int a3] μ (none) μ' := by
  refine gMet_of hI ⟨by decide +kernel, Nat.le_of_ble_eq_true rfl⟩ (fun p e s m args below meth c sz hr hlk => ?_)
  unfold mX6_carryOut at h
  show JC p l e ({ frames := 6, cells := 0, slots := 0, locals := 192 } : Room) s m args below meth c cX6_carryOut 5 RX6 D tc sa ad nc sz (none) μ' μ 0 [(0, .ref (ad 0 0)), (1, .int a1), (2, .int a2), (3, .int a3)] []
  refine J_iload_n (i := 1) (q := 1) (pc1 := 1) dX6_carryOut_0 rfl rfl rfl ?_
  refine J_if_ne (tgt := 13) (pc1 := 4) dX6_carryOut_1 (by decide) (fun q1 => ?_) rfl (fun q1 => ?_)
  · rw [if_neg q1] at h
    refine J_aload_n (i := 0) (q := 0) (pc1 := 14) dX6_carryOut_13 rfl rfl rfl ?_
    refine J_iload_n (i := 2) (q := 2) (pc1 := 15) dX6_carryOut_14 rfl rfl rfl ?_
    obtain ⟨r3, hc2, h⟩ := gBx_r h
    obtain ⟨h4, h⟩ := gChk_s h
    refine J_callV (As := [.int a2]) (ad := ad) (f := 0) (i := 0) (st := []) (st1 := [.ref (ad 11 r3)]) (pc1 := 18) (kX6_replicaAt l D tc sa ad nc hnc hI a2 μ r3 hc2) wcX6_replicaAt wlX6_93 eC0 rfl rfl rfl ⟨rfl, rfl, Nat.le_of_ble_eq_true rfl, Nat.le_of_ble_eq_true rfl⟩ ⟨Nat.zero_le _, Nat.zero_le _⟩ (Nat.le_of_ble_eq_true rfl) dX6_carryOut_15 rfl rfl ?_
    refine J_astore (i := 4) (lv1 := [(4, .ref (ad 11 r3)), (0, .ref (ad 0 0)), (1, .int a1), (2, .int a2), (3, .int a3)]) (pc1 := 20) dX6_carryOut_18 (by decide) rfl rfl ?_
    refine J_iload_n (i := 1) (q := 2) (pc1 := 21) dX6_carryOut_20 rfl rfl rfl ?_
    by_cases q5 : a1 = 1
    · rw [if_pos q5] at h
      refine J_swIn (v := 1) (off := 39) (tgt := 60) dX6_carryOut_21 q5 (by decide) ?_
      refine J_aload (i := 4) (q := 0) (pc1 := 62) dX6_carryOut_60 rfl rfl ?_
      obtain ⟨μ7, hc6, h⟩ := gBp_s h
      refine J_callV (As := []) (ad := ad) (f := 11) (i := r3) (st := []) (st1 := []) (pc1 := 65) (kX4_goDown l D tc sa ad nc hnc hI r3 h4 μ μ7 hc6) wcX4_goDown wlX6_108 (eC11 h4) rfl rfl rfl ⟨rfl, rfl, Nat.le_of_ble_eq_true rfl, Nat.le_of_ble_eq_true rfl⟩ ⟨Nat.zero_le _, Nat.zero_le _⟩ (Nat.le_of_ble_eq_true rfl) dX6_carryOut_62 rfl rfl ?_
      refine J_goto (tgt := 134) dX6_carryOut_65 (by decide) ?_
      cases h
      exact J_vret hr hlk dX6_carryOut_134
    rw [if_neg q5] at h
    by_cases q8 : a1 = 2
    · rw [if_pos q8] at h
      refine J_swIn (v := 2) (off := 47) (tgt := 68) dX6_carryOut_21 q8 (by decide) ?_
      refine J_aload_n (i := 0) (q := 1) (pc1 := 69) dX6_carryOut_68 rfl rfl rfl ?_
      refine J_getR (T := TX6) (f' := 6) (i' := 0) (pc1 := 72) eC0 rfl rfl inX6 0 (by decide) rfl rfl flX6_12 rfl dX6_carryOut_69 rfl ?_
      refine J_aload (i := 4) (q := 0) (pc1 := 74) dX6_carryOut_72 rfl rfl ?_
      obtain ⟨μ10, hc9, h⟩ := gBp_s h
      refine J_callV (As := [.ref (ad 11 r3)]) (ad := ad) (f := 6) (i := 0) (st := []) (st1 := []) (pc1 := 77) (kX0_revive l D tc sa ad nc hnc hI 0 (hnc.1) r3 h4 μ μ10 hc9) wcX0_revive wlX6_116 (eC6 hnc.1) rfl rfl rfl ⟨rfl, rfl, Nat.le_of_ble_eq_true rfl, Nat.le_of_ble_eq_true rfl⟩ ⟨Nat.zero_le _, Nat.zero_le _⟩ (Nat.le_of_ble_eq_true rfl) dX6_carryOut_74 rfl rfl ?_
      refine J_goto (tgt := 134) dX6_carryOut_77 (by decide) ?_
      cases h
      exact J_vret hr hlk dX6_carryOut_134
    rw [if_neg q8] at h
    by_cases q11 : a1 = 3
    · rw [if_pos q11] at h
      refine J_swIn (v := 3) (off := 91) (tgt := 112) dX6_carryOut_21 q11 (by decide) ?_
      refine J_aload_n (i := 0) (q := 1) (pc1 := 113) dX6_carryOut_112 rfl rfl rfl ?_
      refine J_getR (T := TX6) (f' := 6) (i' := 0) (pc1 := 116) eC0 rfl rfl inX6 0 (by decide) rfl rfl flX6_12 rfl dX6_carryOut_113 rfl ?_
      refine J_getR (T := TX0) (f' := 9) (i' := 0) (pc1 := 119) (eC6 hnc.1) rfl rfl inX0 1 (by decide) rfl rfl flX6_66 rfl dX6_carryOut_116 rfl ?_
      refine J_iload_n (i := 2) (q := 3) (pc1 := 120) dX6_carryOut_119 rfl rfl rfl ?_
      refine J_iload_n (i := 3) (q := 4) (pc1 := 121) dX6_carryOut_120 rfl rfl rfl ?_
      refine J_iload_n (i := 1) (q := 2) (pc1 := 122) dX6_carryOut_121 rfl rfl rfl ?_
      refine J_iconst (v := 3) (pc1 := 123) dX6_carryOut_122 (by decide) rfl ?_
      obtain ⟨x12, e13, h⟩ := gLet_s h
      have k14 : JC p l e ({ frames := 6, cells := 0, slots := 0, locals := 192 } : Room) s m args below meth c cX6_carryOut 5 RX6 D tc sa ad nc sz (none) μ' μ 131 [(4, .ref (ad 11 r3)), (0, .ref (ad 0 0)), (1, .int a1), (2, .int a2), (3, .int a3)] [.int x12, .int a3, .int a2, .ref (ad 9 0)] := by
        obtain ⟨μ17, hc16, h⟩ := gBp_s h
        refine J_callV (As := [.int a2, .int a3, .int x12]) (ad := ad) (f := 9) (i := 0) (st := []) (st1 := []) (pc1 := 134) (kX3_setCut l D tc sa ad nc hnc hI 0 (hnc.1) a2 a3 x12 μ μ17 hc16) wcX3_setCut wlX6_89 (eC9 hnc.1) rfl rfl rfl ⟨rfl, rfl, Nat.le_of_ble_eq_true rfl, Nat.le_of_ble_eq_true rfl⟩ ⟨Nat.zero_le _, Nat.zero_le _⟩ (Nat.le_of_ble_eq_true rfl) dX6_carryOut_131 rfl rfl ?_
        cases h
        exact J_vret hr hlk dX6_carryOut_134
      refine J_icmp_ne (tgt := 130) (pc1 := 126) dX6_carryOut_123 (by decide) (fun q15 => ?_) rfl (fun q15 => ?_)
      · rw [if_neg q15] at e13
        subst e13
        refine J_iconst (v := 0) (pc1 := 131) dX6_carryOut_130 (by decide) rfl ?_
        exact k14
      · rw [if_pos q15] at e13
        subst e13
        refine J_iconst (v := 1) (pc1 := 127) dX6_carryOut_126 (by decide) rfl ?_
        refine J_goto (tgt := 131) dX6_carryOut_127 (by decide) ?_
        exact k14
    rw [if_neg q11] at h
    by_cases q18 : a1 = 4
    · rw [if_pos q18] at h
      refine J_swIn (v := 4) (off := 91) (tgt := 112) dX6_carryOut_21 q18 (by decide) ?_
      refine J_aload_n (i := 0) (q := 1) (pc1 := 113) dX6_carryOut_112 rfl rfl rfl ?_
      refine J_getR (T := TX6) (f' := 6) (i' := 0) (pc1 := 116) eC0 rfl rfl inX6 0 (by decide) rfl rfl flX6_12 rfl dX6_carryOut_113 rfl ?_
      refine J_getR (T := TX0) (f' := 9) (i' := 0) (pc1 := 119) (eC6 hnc.1) rfl rfl inX0 1 (by decide) rfl rfl flX6_66 rfl dX6_carryOut_116 rfl ?_
      refine J_iload_n (i := 2) (q := 3) (pc1 := 120) dX6_carryOut_119 rfl rfl rfl ?_
      refine J_iload_n (i := 3) (q := 4) (pc1 := 121) dX6_carryOut_120 rfl rfl rfl ?_
      refine J_iload_n (i := 1) (q := 2) (pc1 := 122) dX6_carryOut_121 rfl rfl rfl ?_
      refine J_iconst (v := 3) (pc1 := 123) dX6_carryOut_122 (by decide) rfl ?_
      obtain ⟨x19, e20, h⟩ := gLet_s h
      have k21 : JC p l e ({ frames := 6, cells := 0, slots := 0, locals := 192 } : Room) s m args below meth c cX6_carryOut 5 RX6 D tc sa ad nc sz (none) μ' μ 131 [(4, .ref (ad 11 r3)), (0, .ref (ad 0 0)), (1, .int a1), (2, .int a2), (3, .int a3)] [.int x19, .int a3, .int a2, .ref (ad 9 0)] := by
        obtain ⟨μ24, hc23, h⟩ := gBp_s h
        refine J_callV (As := [.int a2, .int a3, .int x19]) (ad := ad) (f := 9) (i := 0) (st := []) (st1 := []) (pc1 := 134) (kX3_setCut l D tc sa ad nc hnc hI 0 (hnc.1) a2 a3 x19 μ μ24 hc23) wcX3_setCut wlX6_89 (eC9 hnc.1) rfl rfl rfl ⟨rfl, rfl, Nat.le_of_ble_eq_true rfl, Nat.le_of_ble_eq_true rfl⟩ ⟨Nat.zero_le _, Nat.zero_le _⟩ (Nat.le_of_ble_eq_true rfl) dX6_carryOut_131 rfl rfl ?_
        cases h
        exact J_vret hr hlk dX6_carryOut_134
      refine J_icmp_ne (tgt := 130) (pc1 := 126) dX6_carryOut_123 (by decide) (fun q22 => ?_) rfl (fun q22 => ?_)
      · rw [if_neg q22] at e20
        subst e20
        refine J_iconst (v := 0) (pc1 := 131) dX6_carryOut_130 (by decide) rfl ?_
        exact k21
      · rw [if_pos q22] at e20
        subst e20
        refine J_iconst (v := 1) (pc1 := 127) dX6_carryOut_126 (by decide) rfl ?_
        refine J_goto (tgt := 131) dX6_carryOut_127 (by decide) ?_
        exact k21
    rw [if_neg q18] at h
    by_cases q25 : a1 = 5
    · rw [if_pos q25] at h
      refine J_swIn (v := 5) (off := 59) (tgt := 80) dX6_carryOut_21 q25 (by decide) ?_
      refine J_aload_n (i := 0) (q := 1) (pc1 := 81) dX6_carryOut_80 rfl rfl rfl ?_
      refine J_getR (T := TX6) (f' := 6) (i' := 0) (pc1 := 84) eC0 rfl rfl inX6 0 (by decide) rfl rfl flX6_12 rfl dX6_carryOut_81 rfl ?_
      refine J_aload (i := 4) (q := 0) (pc1 := 86) dX6_carryOut_84 rfl rfl ?_
      refine J_iconst (v := 0) (pc1 := 87) dX6_carryOut_86 (by decide) rfl ?_
      refine J_iload_n (i := 3) (q := 4) (pc1 := 88) dX6_carryOut_87 rfl rfl rfl ?_
      obtain ⟨r27, μ28, hc26, h⟩ := gBd_s h
      refine J_callV (As := [.ref (ad 11 r3), .int 0, .int a3]) (ad := ad) (f := 6) (i := 0) (st := []) (st1 := [.int r27]) (pc1 := 91) (kX0_add l D tc sa ad nc hnc hI 0 (hnc.1) r3 h4 0 a3 μ r27 μ28 hc26) wcX0_add wlX6_144 (eC6 hnc.1) rfl rfl rfl ⟨rfl, rfl, Nat.le_of_ble_eq_true rfl, Nat.le_of_ble_eq_true rfl⟩ ⟨Nat.zero_le _, Nat.zero_le _⟩ (Nat.le_of_ble_eq_true rfl) dX6_carryOut_88 rfl rfl ?_
      refine J_pop (pc1 := 92) dX6_carryOut_91 rfl rfl ?_
      refine J_goto (tgt := 134) dX6_carryOut_92 (by decide) ?_
      cases h
      exact J_vret hr hlk dX6_carryOut_134
    rw [if_neg q25] at h
    by_cases q29 : a1 = 6
    · rw [if_pos q29] at h
      refine J_swIn (v := 6) (off := 74) (tgt := 95) dX6_carryOut_21 q29 (by decide) ?_
      refine J_aload (i := 4) (q := 0) (pc1 := 97) dX6_carryOut_95 rfl rfl ?_
      refine J_getR (T := TX4) (f' := 12) (i' := r3) (pc1 := 100) (eC11 h4) rfl rfl inX4 1 (by decide) rfl rfl flX6_120 rfl dX6_carryOut_97 rfl ?_
      refine J_aload (i := 4) (q := 0) (pc1 := 102) dX6_carryOut_100 rfl rfl ?_
      refine J_getI (T := TX4) (pc1 := 105) (eC11 h4) rfl rfl inX4 9 (by decide) rfl flX6_159 rfl dX6_carryOut_102 rfl ?_
      obtain ⟨r31, μ32, hc30, h⟩ := gBd_s h
      refine J_callV (As := [.int (μ 11 r3 9)]) (ad := ad) (f := 12) (i := r3) (st := []) (st1 := [.int r31]) (pc1 := 108) (kX1_packTo l D tc sa ad nc hnc hI r3 h4 (μ 11 r3 9) μ r31 μ32 hc30) wcX1_packTo wlX6_162 (eC12 h4) rfl rfl rfl ⟨rfl, rfl, Nat.le_of_ble_eq_true rfl, Nat.le_of_ble_eq_true rfl⟩ ⟨Nat.zero_le _, Nat.zero_le _⟩ (Nat.le_of_ble_eq_true rfl) dX6_carryOut_105 rfl rfl ?_
      refine J_pop (pc1 := 109) dX6_carryOut_108 rfl rfl ?_
      refine J_goto (tgt := 134) dX6_carryOut_109 (by decide) ?_
      cases h
      exact J_vret hr hlk dX6_carryOut_134
    rw [if_neg q29] at h
    refine J_swOut (tgt := 112) dX6_carryOut_21 (by have := i32_ne (k := 1) q5 (by decide); have := i32_ne (k := 2) q8 (by decide); have := i32_ne (k := 3) q11 (by decide); have := i32_ne (k := 4) q18 (by decide); have := i32_ne (k := 5) q25 (by decide); have := i32_ne (k := 6) q29 (by decide); omega) (by decide) ?_
    refine J_aload_n (i := 0) (q := 1) (pc1 := 113) dX6_carryOut_112 rfl rfl rfl ?_
    refine J_getR (T := TX6) (f' := 6) (i' := 0) (pc1 := 116) eC0 rfl rfl inX6 0 (by decide) rfl rfl flX6_12 rfl dX6_carryOut_113 rfl ?_
    refine J_getR (T := TX0) (f' := 9) (i' := 0) (pc1 := 119) (eC6 hnc.1) rfl rfl inX0 1 (by decide) rfl rfl flX6_66 rfl dX6_carryOut_116 rfl ?_
    refine J_iload_n (i := 2) (q := 3) (pc1 := 120) dX6_carryOut_119 rfl rfl rfl ?_
    refine J_iload_n (i := 3) (q := 4) (pc1 := 121) dX6_carryOut_120 rfl rfl rfl ?_
    refine J_iload_n (i := 1) (q := 2) (pc1 := 122) dX6_carryOut_121 rfl rfl rfl ?_
    refine J_iconst (v := 3) (pc1 := 123) dX6_carryOut_122 (by decide) rfl ?_
    obtain ⟨x33, e34, h⟩ := gLet_s h
    have k35 : JC p l e ({ frames := 6, cells := 0, slots := 0, locals := 192 } : Room) s m args below meth c cX6_carryOut 5 RX6 D tc sa ad nc sz (none) μ' μ 131 [(4, .ref (ad 11 r3)), (0, .ref (ad 0 0)), (1, .int a1), (2, .int a2), (3, .int a3)] [.int x33, .int a3, .int a2, .ref (ad 9 0)] := by
      obtain ⟨μ38, hc37, h⟩ := gBp_s h
      refine J_callV (As := [.int a2, .int a3, .int x33]) (ad := ad) (f := 9) (i := 0) (st := []) (st1 := []) (pc1 := 134) (kX3_setCut l D tc sa ad nc hnc hI 0 (hnc.1) a2 a3 x33 μ μ38 hc37) wcX3_setCut wlX6_89 (eC9 hnc.1) rfl rfl rfl ⟨rfl, rfl, Nat.le_of_ble_eq_true rfl, Nat.le_of_ble_eq_true rfl⟩ ⟨Nat.zero_le _, Nat.zero_le _⟩ (Nat.le_of_ble_eq_true rfl) dX6_carryOut_131 rfl rfl ?_
      cases h
      exact J_vret hr hlk dX6_carryOut_134
    refine J_icmp_ne (tgt := 130) (pc1 := 126) dX6_carryOut_123 (by decide) (fun q36 => ?_) rfl (fun q36 => ?_)
    · rw [if_neg q36] at e34
      subst e34
      refine J_iconst (v := 0) (pc1 := 131) dX6_carryOut_130 (by decide) rfl ?_
      exact k35
    · rw [if_pos q36] at e34
      subst e34
      refine J_iconst (v := 1) (pc1 := 127) dX6_carryOut_126 (by decide) rfl ?_
      refine J_goto (tgt := 131) dX6_carryOut_127 (by decide) ?_
      exact k35
  · rw [if_pos q1] at h
    refine J_aload_n (i := 0) (q := 0) (pc1 := 5) dX6_carryOut_4 rfl rfl rfl ?_
    refine J_getR (T := TX6) (f' := 6) (i' := 0) (pc1 := 8) eC0 rfl rfl inX6 0 (by decide) rfl rfl flX6_12 rfl dX6_carryOut_5 rfl ?_
    refine J_iload_n (i := 2) (q := 2) (pc1 := 9) dX6_carryOut_8 rfl rfl rfl ?_
    obtain ⟨μ40, hc39, h⟩ := gBp_s h
    refine J_callV (As := [.int a2]) (ad := ad) (f := 6) (i := 0) (st := []) (st1 := []) (pc1 := 12) (kX0_advance l D tc sa ad nc hnc hI 0 (hnc.1) a2 μ μ40 hc39) wcX0_advance wlX6_56 (eC6 hnc.1) rfl rfl rfl ⟨rfl, rfl, Nat.le_of_ble_eq_true rfl, Nat.le_of_ble_eq_true rfl⟩ ⟨Nat.zero_le _, Nat.zero_le _⟩ (Nat.le_of_ble_eq_true rfl) dX6_carryOut_9 rfl rfl ?_
    cases h
    exact J_vret hr hlk dX6_carryOut_12
set_option maxHeartbeats 4000000 in
set_option maxRecDepth 100000 in
theorem tX6_carryOut (l : Launch) (D : va_G) (tc : Nat → ClassId) (sa : Nat → Nat) (ad : Nat → Nat → Nat) (nc : Nat) (hnc : 0 < nc ∧ nc ≤ 2) (hI : gI (gE_C nc) ad) (a1 : Int32) (a2 : Int32) (a3 : Int32) (μ : gM) (hlz : l.stackTraces = false) (E0 : String) (μ' : gM) (h : mX6_carryOut nc a1 a2 a3 μ = some (.inl (E0, μ'))) : gMetX l yX6_carryOut cX6_carryOut 5 (none) ({ frames := 7, cells := 1, slots := 6, locals := 192 } : Room) D (gE_C nc) gkd_C tc ad (grh_C nc) sa [.ref (ad 0 0), .int a1, .int a2, .int a3] μ E0 μ' := by
  refine gMetX_of hI ⟨by decide +kernel, Nat.le_of_ble_eq_true rfl⟩ (fun p e s m args below meth c sz hr hlk hT => ?_)
  unfold mX6_carryOut at h
  show JCX p l e ({ frames := 7, cells := 1, slots := 6, locals := 192 } : Room) s m args below meth c cX6_carryOut 5 RX6 D tc sa ad nc sz E0 μ' μ 0 [(0, .ref (ad 0 0)), (1, .int a1), (2, .int a2), (3, .int a3)] []
  refine J_iload_n (i := 1) (q := 1) (pc1 := 1) dX6_carryOut_0 rfl rfl rfl ?_
  refine J_if_ne (tgt := 13) (pc1 := 4) dX6_carryOut_1 (by decide) (fun q1 => ?_) rfl (fun q1 => ?_)
  · rw [if_neg q1] at h
    refine J_aload_n (i := 0) (q := 0) (pc1 := 14) dX6_carryOut_13 rfl rfl rfl ?_
    refine J_iload_n (i := 2) (q := 2) (pc1 := 15) dX6_carryOut_14 rfl rfl rfl ?_
    rcases gBx_l h with hc2 | ⟨r3, hc2, h⟩
    · exact J_callX (As := [.int a2]) (ad := ad) (f := 0) (i := 0) (st := []) hT (tX6_replicaAt l D tc sa ad nc hnc hI a2 μ hlz E0 μ' hc2) wcX6_replicaAt wlX6_93 eC0 rfl rfl rfl ⟨rfl, rfl, Nat.le_of_ble_eq_true rfl, Nat.le_of_ble_eq_true rfl⟩ ⟨by decide, by decide⟩ (Nat.le_of_ble_eq_true rfl) hlk dX6_carryOut_15
    obtain ⟨h4, h⟩ := gChk_s h
    refine J_callV (As := [.int a2]) (ad := ad) (f := 0) (i := 0) (st := []) (st1 := [.ref (ad 11 r3)]) (pc1 := 18) (kX6_replicaAt l D tc sa ad nc hnc hI a2 μ r3 hc2) wcX6_replicaAt wlX6_93 eC0 rfl rfl rfl ⟨rfl, rfl, Nat.le_of_ble_eq_true rfl, Nat.le_of_ble_eq_true rfl⟩ ⟨Nat.zero_le _, Nat.zero_le _⟩ (Nat.le_of_ble_eq_true rfl) dX6_carryOut_15 rfl rfl ?_
    refine J_astore (i := 4) (lv1 := [(4, .ref (ad 11 r3)), (0, .ref (ad 0 0)), (1, .int a1), (2, .int a2), (3, .int a3)]) (pc1 := 20) dX6_carryOut_18 (by decide) rfl rfl ?_
    refine J_iload_n (i := 1) (q := 2) (pc1 := 21) dX6_carryOut_20 rfl rfl rfl ?_
    by_cases q5 : a1 = 1
    · rw [if_pos q5] at h
      refine J_swIn (v := 1) (off := 39) (tgt := 60) dX6_carryOut_21 q5 (by decide) ?_
      refine J_aload (i := 4) (q := 0) (pc1 := 62) dX6_carryOut_60 rfl rfl ?_
      obtain ⟨μ7, hc6, h⟩ := gBp_s h
      refine J_callV (As := []) (ad := ad) (f := 11) (i := r3) (st := []) (st1 := []) (pc1 := 65) (kX4_goDown l D tc sa ad nc hnc hI r3 h4 μ μ7 hc6) wcX4_goDown wlX6_108 (eC11 h4) rfl rfl rfl ⟨rfl, rfl, Nat.le_of_ble_eq_true rfl, Nat.le_of_ble_eq_true rfl⟩ ⟨Nat.zero_le _, Nat.zero_le _⟩ (Nat.le_of_ble_eq_true rfl) dX6_carryOut_62 rfl rfl ?_
      refine J_goto (tgt := 134) dX6_carryOut_65 (by decide) ?_
      cases h
    rw [if_neg q5] at h
    by_cases q8 : a1 = 2
    · rw [if_pos q8] at h
      refine J_swIn (v := 2) (off := 47) (tgt := 68) dX6_carryOut_21 q8 (by decide) ?_
      refine J_aload_n (i := 0) (q := 1) (pc1 := 69) dX6_carryOut_68 rfl rfl rfl ?_
      refine J_getR (T := TX6) (f' := 6) (i' := 0) (pc1 := 72) eC0 rfl rfl inX6 0 (by decide) rfl rfl flX6_12 rfl dX6_carryOut_69 rfl ?_
      refine J_aload (i := 4) (q := 0) (pc1 := 74) dX6_carryOut_72 rfl rfl ?_
      obtain ⟨μ10, hc9, h⟩ := gBp_s h
      refine J_callV (As := [.ref (ad 11 r3)]) (ad := ad) (f := 6) (i := 0) (st := []) (st1 := []) (pc1 := 77) (kX0_revive l D tc sa ad nc hnc hI 0 (hnc.1) r3 h4 μ μ10 hc9) wcX0_revive wlX6_116 (eC6 hnc.1) rfl rfl rfl ⟨rfl, rfl, Nat.le_of_ble_eq_true rfl, Nat.le_of_ble_eq_true rfl⟩ ⟨Nat.zero_le _, Nat.zero_le _⟩ (Nat.le_of_ble_eq_true rfl) dX6_carryOut_74 rfl rfl ?_
      refine J_goto (tgt := 134) dX6_carryOut_77 (by decide) ?_
      cases h
    rw [if_neg q8] at h
    by_cases q11 : a1 = 3
    · rw [if_pos q11] at h
      refine J_swIn (v := 3) (off := 91) (tgt := 112) dX6_carryOut_21 q11 (by decide) ?_
      refine J_aload_n (i := 0) (q := 1) (pc1 := 113) dX6_carryOut_112 rfl rfl rfl ?_
      refine J_getR (T := TX6) (f' := 6) (i' := 0) (pc1 := 116) eC0 rfl rfl inX6 0 (by decide) rfl rfl flX6_12 rfl dX6_carryOut_113 rfl ?_
      refine J_getR (T := TX0) (f' := 9) (i' := 0) (pc1 := 119) (eC6 hnc.1) rfl rfl inX0 1 (by decide) rfl rfl flX6_66 rfl dX6_carryOut_116 rfl ?_
      refine J_iload_n (i := 2) (q := 3) (pc1 := 120) dX6_carryOut_119 rfl rfl rfl ?_
      refine J_iload_n (i := 3) (q := 4) (pc1 := 121) dX6_carryOut_120 rfl rfl rfl ?_
      refine J_iload_n (i := 1) (q := 2) (pc1 := 122) dX6_carryOut_121 rfl rfl rfl ?_
      refine J_iconst (v := 3) (pc1 := 123) dX6_carryOut_122 (by decide) rfl ?_
      obtain ⟨x12, e13, h⟩ := gLet_s h
      have k14 : JCX p l e ({ frames := 7, cells := 1, slots := 6, locals := 192 } : Room) s m args below meth c cX6_carryOut 5 RX6 D tc sa ad nc sz E0 μ' μ 131 [(4, .ref (ad 11 r3)), (0, .ref (ad 0 0)), (1, .int a1), (2, .int a2), (3, .int a3)] [.int x12, .int a3, .int a2, .ref (ad 9 0)] := by
        obtain ⟨μ17, hc16, h⟩ := gBp_s h
        refine J_callV (As := [.int a2, .int a3, .int x12]) (ad := ad) (f := 9) (i := 0) (st := []) (st1 := []) (pc1 := 134) (kX3_setCut l D tc sa ad nc hnc hI 0 (hnc.1) a2 a3 x12 μ μ17 hc16) wcX3_setCut wlX6_89 (eC9 hnc.1) rfl rfl rfl ⟨rfl, rfl, Nat.le_of_ble_eq_true rfl, Nat.le_of_ble_eq_true rfl⟩ ⟨Nat.zero_le _, Nat.zero_le _⟩ (Nat.le_of_ble_eq_true rfl) dX6_carryOut_131 rfl rfl ?_
        cases h
      refine J_icmp_ne (tgt := 130) (pc1 := 126) dX6_carryOut_123 (by decide) (fun q15 => ?_) rfl (fun q15 => ?_)
      · rw [if_neg q15] at e13
        subst e13
        refine J_iconst (v := 0) (pc1 := 131) dX6_carryOut_130 (by decide) rfl ?_
        exact k14
      · rw [if_pos q15] at e13
        subst e13
        refine J_iconst (v := 1) (pc1 := 127) dX6_carryOut_126 (by decide) rfl ?_
        refine J_goto (tgt := 131) dX6_carryOut_127 (by decide) ?_
        exact k14
    rw [if_neg q11] at h
    by_cases q18 : a1 = 4
    · rw [if_pos q18] at h
      refine J_swIn (v := 4) (off := 91) (tgt := 112) dX6_carryOut_21 q18 (by decide) ?_
      refine J_aload_n (i := 0) (q := 1) (pc1 := 113) dX6_carryOut_112 rfl rfl rfl ?_
      refine J_getR (T := TX6) (f' := 6) (i' := 0) (pc1 := 116) eC0 rfl rfl inX6 0 (by decide) rfl rfl flX6_12 rfl dX6_carryOut_113 rfl ?_
      refine J_getR (T := TX0) (f' := 9) (i' := 0) (pc1 := 119) (eC6 hnc.1) rfl rfl inX0 1 (by decide) rfl rfl flX6_66 rfl dX6_carryOut_116 rfl ?_
      refine J_iload_n (i := 2) (q := 3) (pc1 := 120) dX6_carryOut_119 rfl rfl rfl ?_
      refine J_iload_n (i := 3) (q := 4) (pc1 := 121) dX6_carryOut_120 rfl rfl rfl ?_
      refine J_iload_n (i := 1) (q := 2) (pc1 := 122) dX6_carryOut_121 rfl rfl rfl ?_
      refine J_iconst (v := 3) (pc1 := 123) dX6_carryOut_122 (by decide) rfl ?_
      obtain ⟨x19, e20, h⟩ := gLet_s h
      have k21 : JCX p l e ({ frames := 7, cells := 1, slots := 6, locals := 192 } : Room) s m args below meth c cX6_carryOut 5 RX6 D tc sa ad nc sz E0 μ' μ 131 [(4, .ref (ad 11 r3)), (0, .ref (ad 0 0)), (1, .int a1), (2, .int a2), (3, .int a3)] [.int x19, .int a3, .int a2, .ref (ad 9 0)] := by
        obtain ⟨μ24, hc23, h⟩ := gBp_s h
        refine J_callV (As := [.int a2, .int a3, .int x19]) (ad := ad) (f := 9) (i := 0) (st := []) (st1 := []) (pc1 := 134) (kX3_setCut l D tc sa ad nc hnc hI 0 (hnc.1) a2 a3 x19 μ μ24 hc23) wcX3_setCut wlX6_89 (eC9 hnc.1) rfl rfl rfl ⟨rfl, rfl, Nat.le_of_ble_eq_true rfl, Nat.le_of_ble_eq_true rfl⟩ ⟨Nat.zero_le _, Nat.zero_le _⟩ (Nat.le_of_ble_eq_true rfl) dX6_carryOut_131 rfl rfl ?_
        cases h
      refine J_icmp_ne (tgt := 130) (pc1 := 126) dX6_carryOut_123 (by decide) (fun q22 => ?_) rfl (fun q22 => ?_)
      · rw [if_neg q22] at e20
        subst e20
        refine J_iconst (v := 0) (pc1 := 131) dX6_carryOut_130 (by decide) rfl ?_
        exact k21
      · rw [if_pos q22] at e20
        subst e20
        refine J_iconst (v := 1) (pc1 := 127) dX6_carryOut_126 (by decide) rfl ?_
        refine J_goto (tgt := 131) dX6_carryOut_127 (by decide) ?_
        exact k21
    rw [if_neg q18] at h
    by_cases q25 : a1 = 5
    · rw [if_pos q25] at h
      refine J_swIn (v := 5) (off := 59) (tgt := 80) dX6_carryOut_21 q25 (by decide) ?_
      refine J_aload_n (i := 0) (q := 1) (pc1 := 81) dX6_carryOut_80 rfl rfl rfl ?_
      refine J_getR (T := TX6) (f' := 6) (i' := 0) (pc1 := 84) eC0 rfl rfl inX6 0 (by decide) rfl rfl flX6_12 rfl dX6_carryOut_81 rfl ?_
      refine J_aload (i := 4) (q := 0) (pc1 := 86) dX6_carryOut_84 rfl rfl ?_
      refine J_iconst (v := 0) (pc1 := 87) dX6_carryOut_86 (by decide) rfl ?_
      refine J_iload_n (i := 3) (q := 4) (pc1 := 88) dX6_carryOut_87 rfl rfl rfl ?_
      obtain ⟨r27, μ28, hc26, h⟩ := gBd_s h
      refine J_callV (As := [.ref (ad 11 r3), .int 0, .int a3]) (ad := ad) (f := 6) (i := 0) (st := []) (st1 := [.int r27]) (pc1 := 91) (kX0_add l D tc sa ad nc hnc hI 0 (hnc.1) r3 h4 0 a3 μ r27 μ28 hc26) wcX0_add wlX6_144 (eC6 hnc.1) rfl rfl rfl ⟨rfl, rfl, Nat.le_of_ble_eq_true rfl, Nat.le_of_ble_eq_true rfl⟩ ⟨Nat.zero_le _, Nat.zero_le _⟩ (Nat.le_of_ble_eq_true rfl) dX6_carryOut_88 rfl rfl ?_
      refine J_pop (pc1 := 92) dX6_carryOut_91 rfl rfl ?_
      refine J_goto (tgt := 134) dX6_carryOut_92 (by decide) ?_
      cases h
    rw [if_neg q25] at h
    by_cases q29 : a1 = 6
    · rw [if_pos q29] at h
      refine J_swIn (v := 6) (off := 74) (tgt := 95) dX6_carryOut_21 q29 (by decide) ?_
      refine J_aload (i := 4) (q := 0) (pc1 := 97) dX6_carryOut_95 rfl rfl ?_
      refine J_getR (T := TX4) (f' := 12) (i' := r3) (pc1 := 100) (eC11 h4) rfl rfl inX4 1 (by decide) rfl rfl flX6_120 rfl dX6_carryOut_97 rfl ?_
      refine J_aload (i := 4) (q := 0) (pc1 := 102) dX6_carryOut_100 rfl rfl ?_
      refine J_getI (T := TX4) (pc1 := 105) (eC11 h4) rfl rfl inX4 9 (by decide) rfl flX6_159 rfl dX6_carryOut_102 rfl ?_
      obtain ⟨r31, μ32, hc30, h⟩ := gBd_s h
      refine J_callV (As := [.int (μ 11 r3 9)]) (ad := ad) (f := 12) (i := r3) (st := []) (st1 := [.int r31]) (pc1 := 108) (kX1_packTo l D tc sa ad nc hnc hI r3 h4 (μ 11 r3 9) μ r31 μ32 hc30) wcX1_packTo wlX6_162 (eC12 h4) rfl rfl rfl ⟨rfl, rfl, Nat.le_of_ble_eq_true rfl, Nat.le_of_ble_eq_true rfl⟩ ⟨Nat.zero_le _, Nat.zero_le _⟩ (Nat.le_of_ble_eq_true rfl) dX6_carryOut_105 rfl rfl ?_
      refine J_pop (pc1 := 109) dX6_carryOut_108 rfl rfl ?_
      refine J_goto (tgt := 134) dX6_carryOut_109 (by decide) ?_
      cases h
    rw [if_neg q29] at h
    refine J_swOut (tgt := 112) dX6_carryOut_21 (by have := i32_ne (k := 1) q5 (by decide); have := i32_ne (k := 2) q8 (by decide); have := i32_ne (k := 3) q11 (by decide); have := i32_ne (k := 4) q18 (by decide); have := i32_ne (k := 5) q25 (by decide); have := i32_ne (k := 6) q29 (by decide); omega) (by decide) ?_
    refine J_aload_n (i := 0) (q := 1) (pc1 := 113) dX6_carryOut_112 rfl rfl rfl ?_
    refine J_getR (T := TX6) (f' := 6) (i' := 0) (pc1 := 116) eC0 rfl rfl inX6 0 (by decide) rfl rfl flX6_12 rfl dX6_carryOut_113 rfl ?_
    refine J_getR (T := TX0) (f' := 9) (i' := 0) (pc1 := 119) (eC6 hnc.1) rfl rfl inX0 1 (by decide) rfl rfl flX6_66 rfl dX6_carryOut_116 rfl ?_
    refine J_iload_n (i := 2) (q := 3) (pc1 := 120) dX6_carryOut_119 rfl rfl rfl ?_
    refine J_iload_n (i := 3) (q := 4) (pc1 := 121) dX6_carryOut_120 rfl rfl rfl ?_
    refine J_iload_n (i := 1) (q := 2) (pc1 := 122) dX6_carryOut_121 rfl rfl rfl ?_
    refine J_iconst (v := 3) (pc1 := 123) dX6_carryOut_122 (by decide) rfl ?_
    obtain ⟨x33, e34, h⟩ := gLet_s h
    have k35 : JCX p l e ({ frames := 7, cells := 1, slots := 6, locals := 192 } : Room) s m args below meth c cX6_carryOut 5 RX6 D tc sa ad nc sz E0 μ' μ 131 [(4, .ref (ad 11 r3)), (0, .ref (ad 0 0)), (1, .int a1), (2, .int a2), (3, .int a3)] [.int x33, .int a3, .int a2, .ref (ad 9 0)] := by
      obtain ⟨μ38, hc37, h⟩ := gBp_s h
      refine J_callV (As := [.int a2, .int a3, .int x33]) (ad := ad) (f := 9) (i := 0) (st := []) (st1 := []) (pc1 := 134) (kX3_setCut l D tc sa ad nc hnc hI 0 (hnc.1) a2 a3 x33 μ μ38 hc37) wcX3_setCut wlX6_89 (eC9 hnc.1) rfl rfl rfl ⟨rfl, rfl, Nat.le_of_ble_eq_true rfl, Nat.le_of_ble_eq_true rfl⟩ ⟨Nat.zero_le _, Nat.zero_le _⟩ (Nat.le_of_ble_eq_true rfl) dX6_carryOut_131 rfl rfl ?_
      cases h
    refine J_icmp_ne (tgt := 130) (pc1 := 126) dX6_carryOut_123 (by decide) (fun q36 => ?_) rfl (fun q36 => ?_)
    · rw [if_neg q36] at e34
      subst e34
      refine J_iconst (v := 0) (pc1 := 131) dX6_carryOut_130 (by decide) rfl ?_
      exact k35
    · rw [if_pos q36] at e34
      subst e34
      refine J_iconst (v := 1) (pc1 := 127) dX6_carryOut_126 (by decide) rfl ?_
      refine J_goto (tgt := 131) dX6_carryOut_127 (by decide) ?_
      exact k35
  · rw [if_pos q1] at h
    refine J_aload_n (i := 0) (q := 0) (pc1 := 5) dX6_carryOut_4 rfl rfl rfl ?_
    refine J_getR (T := TX6) (f' := 6) (i' := 0) (pc1 := 8) eC0 rfl rfl inX6 0 (by decide) rfl rfl flX6_12 rfl dX6_carryOut_5 rfl ?_
    refine J_iload_n (i := 2) (q := 2) (pc1 := 9) dX6_carryOut_8 rfl rfl rfl ?_
    obtain ⟨μ40, hc39, h⟩ := gBp_s h
    refine J_callV (As := [.int a2]) (ad := ad) (f := 6) (i := 0) (st := []) (st1 := []) (pc1 := 12) (kX0_advance l D tc sa ad nc hnc hI 0 (hnc.1) a2 μ μ40 hc39) wcX0_advance wlX6_56 (eC6 hnc.1) rfl rfl rfl ⟨rfl, rfl, Nat.le_of_ble_eq_true rfl, Nat.le_of_ble_eq_true rfl⟩ ⟨Nat.zero_le _, Nat.zero_le _⟩ (Nat.le_of_ble_eq_true rfl) dX6_carryOut_9 rfl rfl ?_
    cases h
