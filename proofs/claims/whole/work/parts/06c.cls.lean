theorem flX0_31 : Cond.fieldLink RX0 31 "QuorumLog$Cluster" "seed" "I" ∈ BIG := bigT2 (i := 61) rfl rfl
theorem flX0_129 : Cond.fieldLink RX0 129 "QuorumLog$Replica" "term" "I" ∈ BIG := bigT1 (i := 124) rfl rfl
theorem flX0_138 : Cond.fieldLink RX0 138 "QuorumLog$Replica" "id" "I" ∈ BIG := bigT1 (i := 104) rfl rfl
theorem ctX0_141 : Cond.constant RX0 141 ((-1640531527)) ∈ BIG := bigT2 (i := 182) rfl rfl
theorem flX0_142 : Cond.fieldLink RX0 142 "QuorumLog$Replica" "timer" "I" ∈ BIG := bigT1 (i := 133) rfl rfl
theorem flX0_35 : Cond.fieldLink RX0 35 "QuorumLog$Cluster" "time" "I" ∈ BIG := bigT2 (i := 62) rfl rfl
theorem flX0_38 : Cond.fieldLink RX0 38 "QuorumLog$Cluster" "stood" "I" ∈ BIG := bigT2 (i := 64) rfl rfl
theorem flX0_41 : Cond.fieldLink RX0 41 "QuorumLog$Cluster" "won" "I" ∈ BIG := bigT2 (i := 66) rfl rfl
theorem flX0_44 : Cond.fieldLink RX0 44 "QuorumLog$Cluster" "removed" "I" ∈ BIG := bigT2 (i := 68) rfl rfl
theorem flX0_47 : Cond.fieldLink RX0 47 "QuorumLog$Cluster" "installed" "I" ∈ BIG := bigT2 (i := 70) rfl rfl
theorem flX0_23 : Cond.fieldLink RX0 23 "QuorumLog$Cluster" "network" "LQuorumLog$Network;" ∈ BIG := bigT2 (i := 57) rfl rfl
theorem wlX0_50 : Cond.methodLink RX0 50 yX3_clear ∈ BIG := bigT2 (i := 158) rfl rfl
theorem imX3_clear : Cond.instanceMethod yX3_clear ∈ BIG := bigT2 (i := 159) rfl rfl
theorem seX3_clear : Cond.selects yX3_clear.cls yX3_clear yX3_clear ∈ BIG := bigT2 (i := 160) rfl rfl
theorem cdX3_clear : Cond.code yX3_clear cX3_clear 1 (none) ∈ BIG := bigT2 (i := 161) rfl rfl
theorem wcX3_clear : wCv yX3_clear cX3_clear 1 (none) 0 := ⟨⟨imX3_clear, seX3_clear, iniX3, cdX3_clear⟩, by decide +kernel⟩
theorem flX0_11 : Cond.fieldLink RX0 11 "QuorumLog$Cluster" "replicas" "[LQuorumLog$Replica;" ∈ BIG := bigT2 (i := 55) rfl rfl
theorem wlX0_53 : Cond.methodLink RX0 53 yX4_clear ∈ BIG := bigT2 (i := 162) rfl rfl
theorem imX4_clear : Cond.instanceMethod yX4_clear ∈ BIG := bigT2 (i := 163) rfl rfl
theorem seX4_clear : Cond.selects yX4_clear.cls yX4_clear yX4_clear ∈ BIG := bigT2 (i := 164) rfl rfl
theorem cdX4_clear : Cond.code yX4_clear cX4_clear 2 (none) ∈ BIG := bigT2 (i := 165) rfl rfl
theorem wcX4_clear : wCv yX4_clear cX4_clear 2 (none) 1 := ⟨⟨imX4_clear, seX4_clear, iniX4, cdX4_clear⟩, by decide +kernel⟩
theorem wlX0_55 : Cond.methodLink RX0 55 yX0_resetTimer ∈ BIG := bigT2 (i := 178) rfl rfl
theorem imX0_resetTimer : Cond.instanceMethod yX0_resetTimer ∈ BIG := bigT2 (i := 180) rfl rfl
theorem seX0_resetTimer : Cond.selects yX0_resetTimer.cls yX0_resetTimer yX0_resetTimer ∈ BIG := bigS1 (i := 2) (q := (yX0_resetTimer, 9)) rfl
theorem iniX0 : Cond.initialized RX0 ∈ BIG := bigT1 (i := 2) rfl rfl
theorem cdX0_resetTimer : Cond.code yX0_resetTimer cX0_resetTimer 3 (none) ∈ BIG := bigT2 (i := 181) rfl rfl
theorem wcX0_resetTimer : wCv yX0_resetTimer cX0_resetTimer 3 (none) 1 := ⟨⟨imX0_resetTimer, seX0_resetTimer, iniX0, cdX0_resetTimer⟩, by decide +kernel⟩
theorem flX0_27 : Cond.fieldLink RX0 27 "QuorumLog$Cluster" "winners" "[I" ∈ BIG := bigT2 (i := 59) rfl rfl
theorem wlX0_59 : Cond.methodLink RX0 59 arraycopyName ∈ BIG := bigT2 (i := 208) rfl rfl
theorem wlX0_65 : Cond.methodLink RX0 65 yX3_copyFrom ∈ BIG := bigT2 (i := 211) rfl rfl
theorem imX3_copyFrom : Cond.instanceMethod yX3_copyFrom ∈ BIG := bigT2 (i := 212) rfl rfl
theorem seX3_copyFrom : Cond.selects yX3_copyFrom.cls yX3_copyFrom yX3_copyFrom ∈ BIG := bigT2 (i := 213) rfl rfl
theorem cdX3_copyFrom : Cond.code yX3_copyFrom cX3_copyFrom 3 (none) ∈ BIG := bigT2 (i := 214) rfl rfl
theorem wcX3_copyFrom : wCv yX3_copyFrom cX3_copyFrom 3 (none) 1 := ⟨⟨imX3_copyFrom, seX3_copyFrom, iniX3, cdX3_copyFrom⟩, by decide +kernel⟩
theorem wlX0_69 : Cond.methodLink RX0 69 yX4_copyFrom ∈ BIG := bigT2 (i := 220) rfl rfl
theorem imX4_copyFrom : Cond.instanceMethod yX4_copyFrom ∈ BIG := bigT2 (i := 221) rfl rfl
theorem seX4_copyFrom : Cond.selects yX4_copyFrom.cls yX4_copyFrom yX4_copyFrom ∈ BIG := bigT2 (i := 222) rfl rfl
theorem cdX4_copyFrom : Cond.code yX4_copyFrom cX4_copyFrom 2 (none) ∈ BIG := bigT2 (i := 223) rfl rfl
theorem wcX4_copyFrom : wCv yX4_copyFrom cX4_copyFrom 2 (none) 1 := ⟨⟨imX4_copyFrom, seX4_copyFrom, iniX4, cdX4_copyFrom⟩, by decide +kernel⟩
theorem flX0_225 : Cond.fieldLink RX0 225 "QuorumLog$Network" "draft" "LQuorumLog$Message;" ∈ BIG := bigT2 (i := 23) rfl rfl
theorem wlX0_228 : Cond.methodLink RX0 228 yX2_clear ∈ BIG := bigT3 (i := 133) rfl rfl
theorem imX2_clear : Cond.instanceMethod yX2_clear ∈ BIG := bigT3 (i := 134) rfl rfl
theorem seX2_clear : Cond.selects yX2_clear.cls yX2_clear yX2_clear ∈ BIG := bigT3 (i := 135) rfl rfl
theorem cdX2_clear : Cond.code yX2_clear cX2_clear 1 (none) ∈ BIG := bigT3 (i := 136) rfl rfl
theorem wcX2_clear : wCv yX2_clear cX2_clear 1 (none) 0 := ⟨⟨imX2_clear, seX2_clear, iniX2, cdX2_clear⟩, by decide +kernel⟩
theorem flX0_229 : Cond.fieldLink RX0 229 "QuorumLog$Message" "kind" "I" ∈ BIG := bigT1 (i := 189) rfl rfl
theorem flX0_85 : Cond.fieldLink RX0 85 "QuorumLog$Message" "sender" "I" ∈ BIG := bigT1 (i := 192) rfl rfl
theorem flX0_94 : Cond.fieldLink RX0 94 "QuorumLog$Message" "receiver" "I" ∈ BIG := bigT1 (i := 196) rfl rfl
theorem flX0_232 : Cond.fieldLink RX0 232 "QuorumLog$Message" "term" "I" ∈ BIG := bigT1 (i := 200) rfl rfl
theorem flX0_233 : Cond.fieldLink RX0 233 "QuorumLog$Network" "delay" "I" ∈ BIG := bigT2 (i := 32) rfl rfl
theorem flX0_236 : Cond.fieldLink RX0 236 "QuorumLog$Message" "due" "I" ∈ BIG := bigT1 (i := 204) rfl rfl
theorem flX0_239 : Cond.fieldLink RX0 239 "QuorumLog$Message" "told" "I" ∈ BIG := bigT1 (i := 207) rfl rfl
theorem flX0_155 : Cond.fieldLink RX0 155 "QuorumLog$Replica" "vote" "I" ∈ BIG := bigT1 (i := 127) rfl rfl
theorem wlX0_163 : Cond.methodLink RX0 163 yX0_open ∈ BIG := bigT3 (i := 129) rfl rfl
theorem imX0_open : Cond.instanceMethod yX0_open ∈ BIG := bigT3 (i := 131) rfl rfl
theorem seX0_open : Cond.selects yX0_open.cls yX0_open yX0_open ∈ BIG := bigS1 (i := 6) (q := (yX0_open, 9)) rfl
theorem cdX0_open : Cond.code yX0_open cX0_open 5 (some (.object "QuorumLog$Message")) ∈ BIG := bigT3 (i := 132) rfl rfl
theorem wcX0_open : wCv yX0_open cX0_open 5 (some (.object "QuorumLog$Message")) 3 := ⟨⟨imX0_open, seX0_open, iniX0, cdX0_open⟩, by decide +kernel⟩
theorem flX0_267 : Cond.fieldLink RX0 267 "QuorumLog$Message" "isGranted" "Z" ∈ BIG := bigT1 (i := 216) rfl rfl
theorem wlX0_176 : Cond.methodLink RX0 176 yX3_post ∈ BIG := bigT3 (i := 137) rfl rfl
theorem imX3_post : Cond.instanceMethod yX3_post ∈ BIG := bigT3 (i := 138) rfl rfl
theorem seX3_post : Cond.selects yX3_post.cls yX3_post yX3_post ∈ BIG := bigT3 (i := 139) rfl rfl
theorem cdX3_post : Cond.code yX3_post cX3_post 2 (none) ∈ BIG := bigT3 (i := 140) rfl rfl
theorem wcX3_post : wCv yX3_post cX3_post 2 (none) 0 := ⟨⟨imX3_post, seX3_post, iniX3, cdX3_post⟩, by decide +kernel⟩
theorem flX0_113 : Cond.fieldLink RX0 113 "QuorumLog$Replica" "log" "LQuorumLog$Log;" ∈ BIG := bigT1 (i := 106) rfl rfl
theorem flX0_167 : Cond.fieldLink RX0 167 "QuorumLog$Message" "index" "I" ∈ BIG := bigT1 (i := 209) rfl rfl
theorem flX0_173 : Cond.fieldLink RX0 173 "QuorumLog$Message" "indexTerm" "I" ∈ BIG := bigT1 (i := 213) rfl rfl
theorem wlX0_264 : Cond.methodLink RX0 264 yX1_isNotAheadOf ∈ BIG := bigT3 (i := 117) rfl rfl
theorem imX1_isNotAheadOf : Cond.instanceMethod yX1_isNotAheadOf ∈ BIG := bigT3 (i := 118) rfl rfl
theorem seX1_isNotAheadOf : Cond.selects yX1_isNotAheadOf.cls yX1_isNotAheadOf yX1_isNotAheadOf ∈ BIG := bigT3 (i := 119) rfl rfl
theorem cdX1_isNotAheadOf : Cond.code yX1_isNotAheadOf cX1_isNotAheadOf 4 (some .boolean) ∈ BIG := bigT3 (i := 120) rfl rfl
theorem wcX1_isNotAheadOf : wCv yX1_isNotAheadOf cX1_isNotAheadOf 4 (some .boolean) 2 := ⟨⟨imX1_isNotAheadOf, seX1_isNotAheadOf, iniX1, cdX1_isNotAheadOf⟩, by decide +kernel⟩
theorem flX0_145 : Cond.fieldLink RX0 145 "QuorumLog$Replica" "role" "I" ∈ BIG := bigT1 (i := 122) rfl rfl
theorem flX0_158 : Cond.fieldLink RX0 158 "QuorumLog$Replica" "voters" "I" ∈ BIG := bigT1 (i := 136) rfl rfl
theorem wlX0_179 : Cond.methodLink RX0 179 yX1_isQuorum ∈ BIG := bigT3 (i := 149) rfl rfl
theorem flX0_213 : Cond.fieldLink RX0 213 "QuorumLog$Replica" "next" "[I" ∈ BIG := bigT1 (i := 110) rfl rfl
theorem flX0_117 : Cond.fieldLink RX0 117 "QuorumLog$Log" "baseIndex" "I" ∈ BIG := bigT1 (i := 64) rfl rfl
theorem wlX0_191 : Cond.methodLink RX0 191 yX1_termAt ∈ BIG := bigT3 (i := 172) rfl rfl
theorem flX0_122 : Cond.fieldLink RX0 122 "QuorumLog$Replica" "commit" "I" ∈ BIG := bigT1 (i := 130) rfl rfl
theorem flX0_220 : Cond.fieldLink RX0 220 "QuorumLog$Message" "commit" "I" ∈ BIG := bigT1 (i := 218) rfl rfl
theorem wlX0_221 : Cond.methodLink RX0 221 yX1_copyEntries ∈ BIG := bigT3 (i := 180) rfl rfl
theorem imX1_copyEntries : Cond.instanceMethod yX1_copyEntries ∈ BIG := bigT3 (i := 181) rfl rfl
theorem seX1_copyEntries : Cond.selects yX1_copyEntries.cls yX1_copyEntries yX1_copyEntries ∈ BIG := bigT3 (i := 182) rfl rfl
theorem cdX1_copyEntries : Cond.code yX1_copyEntries cX1_copyEntries 6 (none) ∈ BIG := bigT3 (i := 183) rfl rfl
theorem wcX1_copyEntries : wCv yX1_copyEntries cX1_copyEntries 6 (none) 2 := ⟨⟨imX1_copyEntries, seX1_copyEntries, iniX1, cdX1_copyEntries⟩, by decide +kernel⟩
theorem wlX0_216 : Cond.methodLink RX0 216 yX1_copySnapshot ∈ BIG := bigT3 (i := 168) rfl rfl
theorem imX1_copySnapshot : Cond.instanceMethod yX1_copySnapshot ∈ BIG := bigT3 (i := 169) rfl rfl
theorem seX1_copySnapshot : Cond.selects yX1_copySnapshot.cls yX1_copySnapshot yX1_copySnapshot ∈ BIG := bigT3 (i := 170) rfl rfl
theorem cdX1_copySnapshot : Cond.code yX1_copySnapshot cX1_copySnapshot 2 (none) ∈ BIG := bigT3 (i := 171) rfl rfl
theorem wcX1_copySnapshot : wCv yX1_copySnapshot cX1_copySnapshot 2 (none) 1 := ⟨⟨imX1_copySnapshot, seX1_copySnapshot, iniX1, cdX1_copySnapshot⟩, by decide +kernel⟩
theorem flX0_279 : Cond.fieldLink RX0 279 "QuorumLog$Replica" "match" "[I" ∈ BIG := bigT1 (i := 113) rfl rfl
theorem wlX0_276 : Cond.methodLink RX0 276 Lib.Math.max.name ∈ BIG := bigT3 (i := 161) rfl rfl
theorem stMmax : Cond.static Lib.Math.max.name ∈ BIG := bigT3 (i := 162) rfl rfl
theorem iniMath : Cond.initialized "java/lang/Math" ∈ BIG := bigT1 (i := 19) rfl rfl
theorem cdMmax : Cond.code Lib.Math.max.name Lib.Math.max.code 2 (some .int) ∈ BIG := bigT3 (i := 163) rfl rfl
theorem flX0_282 : Cond.fieldLink RX0 282 "QuorumLog$Replica" "echo" "[I" ∈ BIG := bigT1 (i := 116) rfl rfl
theorem wlX0_270 : Cond.methodLink RX0 270 Lib.Math.min.name ∈ BIG := bigT3 (i := 158) rfl rfl
theorem stMmin : Cond.static Lib.Math.min.name ∈ BIG := bigT3 (i := 159) rfl rfl
theorem cdMmin : Cond.code Lib.Math.min.name Lib.Math.min.code 2 (some .int) ∈ BIG := bigT3 (i := 160) rfl rfl
theorem wlX0_210 : Cond.methodLink RX0 210 yX0_sendTo ∈ BIG := bigT3 (i := 164) rfl rfl
theorem imX0_sendTo : Cond.instanceMethod yX0_sendTo ∈ BIG := bigT3 (i := 166) rfl rfl
theorem seX0_sendTo : Cond.selects yX0_sendTo.cls yX0_sendTo yX0_sendTo ∈ BIG := bigS1 (i := 9) (q := (yX0_sendTo, 9)) rfl
theorem cdX0_sendTo : Cond.code yX0_sendTo cX0_sendTo 6 (none) ∈ BIG := bigT3 (i := 167) rfl rfl
theorem wcX0_sendTo : wCv yX0_sendTo cX0_sendTo 6 (none) 2 := ⟨⟨imX0_sendTo, seX0_sendTo, iniX0, cdX0_sendTo⟩, by decide +kernel⟩
theorem wlX0_285 : Cond.methodLink RX0 285 yX1_fits ∈ BIG := bigT3 (i := 192) rfl rfl
theorem imX1_fits : Cond.instanceMethod yX1_fits ∈ BIG := bigT3 (i := 193) rfl rfl
theorem seX1_fits : Cond.selects yX1_fits.cls yX1_fits yX1_fits ∈ BIG := bigT3 (i := 194) rfl rfl
theorem cdX1_fits : Cond.code yX1_fits cX1_fits 3 (some .boolean) ∈ BIG := bigT3 (i := 195) rfl rfl
theorem wcX1_fits : wCv yX1_fits cX1_fits 3 (some .boolean) 2 := ⟨⟨imX1_fits, seX1_fits, iniX1, cdX1_fits⟩, by decide +kernel⟩
theorem wlX0_254 : Cond.methodLink RX0 254 yX0_answer ∈ BIG := bigT3 (i := 184) rfl rfl
theorem imX0_answer : Cond.instanceMethod yX0_answer ∈ BIG := bigT3 (i := 186) rfl rfl
theorem seX0_answer : Cond.selects yX0_answer.cls yX0_answer yX0_answer ∈ BIG := bigS1 (i := 11) (q := (yX0_answer, 9)) rfl
theorem cdX0_answer : Cond.code yX0_answer cX0_answer 6 (none) ∈ BIG := bigT3 (i := 187) rfl rfl
theorem wcX0_answer : wCv yX0_answer cX0_answer 6 (none) 4 := ⟨⟨imX0_answer, seX0_answer, iniX0, cdX0_answer⟩, by decide +kernel⟩
theorem flX0_288 : Cond.fieldLink RX0 288 "QuorumLog$Message" "count" "I" ∈ BIG := bigT1 (i := 187) rfl rfl
theorem wlX0_289 : Cond.methodLink RX0 289 yX1_has ∈ BIG := bigT3 (i := 198) rfl rfl
theorem wlX0_125 : Cond.methodLink RX0 125 yX1_lastIndex ∈ BIG := bigT3 (i := 197) rfl rfl
theorem flX0_292 : Cond.fieldLink RX0 292 "QuorumLog$Message" "terms" "[I" ∈ BIG := bigT1 (i := 178) rfl rfl
theorem flX0_298 : Cond.fieldLink RX0 298 "QuorumLog$Message" "kinds" "[I" ∈ BIG := bigT1 (i := 181) rfl rfl
theorem flX0_301 : Cond.fieldLink RX0 301 "QuorumLog$Message" "values" "[I" ∈ BIG := bigT1 (i := 184) rfl rfl
theorem wlX0_132 : Cond.methodLink RX0 132 yX1_append ∈ BIG := bigT3 (i := 206) rfl rfl
theorem imX1_append : Cond.instanceMethod yX1_append ∈ BIG := bigT3 (i := 207) rfl rfl
theorem seX1_append : Cond.selects yX1_append.cls yX1_append yX1_append ∈ BIG := bigT3 (i := 208) rfl rfl
theorem cdX1_append : Cond.code yX1_append cX1_append 4 (some .boolean) ∈ BIG := bigT3 (i := 209) rfl rfl
theorem wcX1_append : wCv yX1_append cX1_append 4 (some .boolean) 3 := ⟨⟨imX1_append, seX1_append, iniX1, cdX1_append⟩, by decide +kernel⟩
theorem wlX0_295 : Cond.methodLink RX0 295 yX1_cutFrom ∈ BIG := bigT3 (i := 202) rfl rfl
theorem imX1_cutFrom : Cond.instanceMethod yX1_cutFrom ∈ BIG := bigT3 (i := 203) rfl rfl
theorem seX1_cutFrom : Cond.selects yX1_cutFrom.cls yX1_cutFrom yX1_cutFrom ∈ BIG := bigT3 (i := 204) rfl rfl
theorem cdX1_cutFrom : Cond.code yX1_cutFrom cX1_cutFrom 3 (some .int) ∈ BIG := bigT3 (i := 205) rfl rfl
theorem wcX1_cutFrom : wCv yX1_cutFrom cX1_cutFrom 3 (some .int) 1 := ⟨⟨imX1_cutFrom, seX1_cutFrom, iniX1, cdX1_cutFrom⟩, by decide +kernel⟩
theorem wlX0_304 : Cond.methodLink RX0 304 yX1_install ∈ BIG := bigT3 (i := 214) rfl rfl
theorem imX1_install : Cond.instanceMethod yX1_install ∈ BIG := bigT3 (i := 215) rfl rfl
theorem seX1_install : Cond.selects yX1_install.cls yX1_install yX1_install ∈ BIG := bigT3 (i := 216) rfl rfl
theorem cdX1_install : Cond.code yX1_install cX1_install 3 (none) ∈ BIG := bigT3 (i := 217) rfl rfl
theorem wcX1_install : wCv yX1_install cX1_install 3 (none) 1 := ⟨⟨imX1_install, seX1_install, iniX1, cdX1_install⟩, by decide +kernel⟩
theorem flX0_109 : Cond.fieldLink RX0 109 "QuorumLog$Replica" "isUp" "Z" ∈ BIG := bigT1 (i := 118) rfl rfl
theorem wlX0_245 : Cond.methodLink RX0 245 yX0_takeRequest ∈ BIG := bigT3 (i := 113) rfl rfl
theorem imX0_takeRequest : Cond.instanceMethod yX0_takeRequest ∈ BIG := bigT3 (i := 115) rfl rfl
theorem seX0_takeRequest : Cond.selects yX0_takeRequest.cls yX0_takeRequest yX0_takeRequest ∈ BIG := bigS1 (i := 5) (q := (yX0_takeRequest, 9)) rfl
theorem cdX0_takeRequest : Cond.code yX0_takeRequest cX0_takeRequest 5 (some .int) ∈ BIG := bigT3 (i := 116) rfl rfl
theorem wcX0_takeRequest : wCv yX0_takeRequest cX0_takeRequest 5 (some .int) 2 := ⟨⟨imX0_takeRequest, seX0_takeRequest, iniX0, cdX0_takeRequest⟩, by decide +kernel⟩
theorem wlX0_248 : Cond.methodLink RX0 248 yX0_takeReply ∈ BIG := bigT3 (i := 145) rfl rfl
theorem imX0_takeReply : Cond.instanceMethod yX0_takeReply ∈ BIG := bigT3 (i := 147) rfl rfl
theorem seX0_takeReply : Cond.selects yX0_takeReply.cls yX0_takeReply yX0_takeReply ∈ BIG := bigS1 (i := 7) (q := (yX0_takeReply, 9)) rfl
theorem cdX0_takeReply : Cond.code yX0_takeReply cX0_takeReply 3 (some .int) ∈ BIG := bigT3 (i := 148) rfl rfl
theorem wcX0_takeReply : wCv yX0_takeReply cX0_takeReply 3 (some .int) 2 := ⟨⟨imX0_takeReply, seX0_takeReply, iniX0, cdX0_takeReply⟩, by decide +kernel⟩
theorem wlX0_207 : Cond.methodLink RX0 207 yX4_follow ∈ BIG := bigT3 (i := 109) rfl rfl
theorem imX4_follow : Cond.instanceMethod yX4_follow ∈ BIG := bigT3 (i := 110) rfl rfl
theorem seX4_follow : Cond.selects yX4_follow.cls yX4_follow yX4_follow ∈ BIG := bigT3 (i := 111) rfl rfl
theorem cdX4_follow : Cond.code yX4_follow cX4_follow 1 (none) ∈ BIG := bigT3 (i := 112) rfl rfl
theorem wcX4_follow : wCv yX4_follow cX4_follow 1 (none) 0 := ⟨⟨imX4_follow, seX4_follow, iniX4, cdX4_follow⟩, by decide +kernel⟩
theorem wlX0_261 : Cond.methodLink RX0 261 yX0_takeSnapshot ∈ BIG := bigT3 (i := 210) rfl rfl
theorem imX0_takeSnapshot : Cond.instanceMethod yX0_takeSnapshot ∈ BIG := bigT3 (i := 212) rfl rfl
theorem seX0_takeSnapshot : Cond.selects yX0_takeSnapshot.cls yX0_takeSnapshot yX0_takeSnapshot ∈ BIG := bigS1 (i := 13) (q := (yX0_takeSnapshot, 9)) rfl
theorem cdX0_takeSnapshot : Cond.code yX0_takeSnapshot cX0_takeSnapshot 3 (some .int) ∈ BIG := bigT3 (i := 213) rfl rfl
theorem wcX0_takeSnapshot : wCv yX0_takeSnapshot cX0_takeSnapshot 3 (some .int) 2 := ⟨⟨imX0_takeSnapshot, seX0_takeSnapshot, iniX0, cdX0_takeSnapshot⟩, by decide +kernel⟩
theorem wlX0_258 : Cond.methodLink RX0 258 yX0_takeAppend ∈ BIG := bigT3 (i := 188) rfl rfl
theorem imX0_takeAppend : Cond.instanceMethod yX0_takeAppend ∈ BIG := bigT3 (i := 190) rfl rfl
theorem seX0_takeAppend : Cond.selects yX0_takeAppend.cls yX0_takeAppend yX0_takeAppend ∈ BIG := bigS1 (i := 12) (q := (yX0_takeAppend, 9)) rfl
theorem cdX0_takeAppend : Cond.code yX0_takeAppend cX0_takeAppend 7 (some .int) ∈ BIG := bigT3 (i := 191) rfl rfl
theorem wcX0_takeAppend : wCv yX0_takeAppend cX0_takeAppend 7 (some .int) 2 := ⟨⟨imX0_takeAppend, seX0_takeAppend, iniX0, cdX0_takeAppend⟩, by decide +kernel⟩
theorem wlX0_251 : Cond.methodLink RX0 251 yX0_takeAnswer ∈ BIG := bigT3 (i := 154) rfl rfl
theorem imX0_takeAnswer : Cond.instanceMethod yX0_takeAnswer ∈ BIG := bigT3 (i := 156) rfl rfl
theorem seX0_takeAnswer : Cond.selects yX0_takeAnswer.cls yX0_takeAnswer yX0_takeAnswer ∈ BIG := bigS1 (i := 8) (q := (yX0_takeAnswer, 9)) rfl
theorem cdX0_takeAnswer : Cond.code yX0_takeAnswer cX0_takeAnswer 4 (some .int) ∈ BIG := bigT3 (i := 157) rfl rfl
theorem wcX0_takeAnswer : wCv yX0_takeAnswer cX0_takeAnswer 4 (some .int) 2 := ⟨⟨imX0_takeAnswer, seX0_takeAnswer, iniX0, cdX0_takeAnswer⟩, by decide +kernel⟩
theorem flX0_242 : Cond.fieldLink RX0 242 "QuorumLog$Network" "lost" "I" ∈ BIG := bigT2 (i := 36) rfl rfl
theorem wlX0_188 : Cond.methodLink RX0 188 yX4_lead ∈ BIG := bigT3 (i := 231) rfl rfl
theorem imX4_lead : Cond.instanceMethod yX4_lead ∈ BIG := bigT3 (i := 232) rfl rfl
theorem seX4_lead : Cond.selects yX4_lead.cls yX4_lead yX4_lead ∈ BIG := bigT3 (i := 233) rfl rfl
theorem cdX4_lead : Cond.code yX4_lead cX4_lead 2 (none) ∈ BIG := bigT3 (i := 234) rfl rfl
theorem wcX4_lead : wCv yX4_lead cX4_lead 2 (none) 0 := ⟨⟨imX4_lead, seX4_lead, iniX4, cdX4_lead⟩, by decide +kernel⟩
theorem wlX0_198 : Cond.methodLink RX0 198 yX4_isConfigurationCommitted ∈ BIG := bigT4 (i := 4) rfl rfl
theorem imX4_isConfigurationCommitted : Cond.instanceMethod yX4_isConfigurationCommitted ∈ BIG := bigT4 (i := 5) rfl rfl
theorem seX4_isConfigurationCommitted : Cond.selects yX4_isConfigurationCommitted.cls yX4_isConfigurationCommitted yX4_isConfigurationCommitted ∈ BIG := bigT4 (i := 6) rfl rfl
theorem cdX4_isConfigurationCommitted : Cond.code yX4_isConfigurationCommitted cX4_isConfigurationCommitted 1 (some .boolean) ∈ BIG := bigT4 (i := 7) rfl rfl
theorem wcX4_isConfigurationCommitted : wCv yX4_isConfigurationCommitted cX4_isConfigurationCommitted 1 (some .boolean) 0 := ⟨⟨imX4_isConfigurationCommitted, seX4_isConfigurationCommitted, iniX4, cdX4_isConfigurationCommitted⟩, by decide +kernel⟩
theorem wlX0_201 : Cond.methodLink RX0 201 yX1_isJoint ∈ BIG := bigT4 (i := 8) rfl rfl
theorem imX1_isJoint : Cond.instanceMethod yX1_isJoint ∈ BIG := bigT4 (i := 9) rfl rfl
theorem seX1_isJoint : Cond.selects yX1_isJoint.cls yX1_isJoint yX1_isJoint ∈ BIG := bigT4 (i := 10) rfl rfl
theorem cdX1_isJoint : Cond.code yX1_isJoint cX1_isJoint 1 (some .boolean) ∈ BIG := bigT4 (i := 11) rfl rfl
theorem wcX1_isJoint : wCv yX1_isJoint cX1_isJoint 1 (some .boolean) 0 := ⟨⟨imX1_isJoint, seX1_isJoint, iniX1, cdX1_isJoint⟩, by decide +kernel⟩
theorem flX0_204 : Cond.fieldLink RX0 204 "QuorumLog$Log" "newGroup" "I" ∈ BIG := bigT1 (i := 75) rfl rfl
theorem wlX0_148 : Cond.methodLink RX0 148 yX4_isMember ∈ BIG := bigT4 (i := 12) rfl rfl
theorem imX4_isMember : Cond.instanceMethod yX4_isMember ∈ BIG := bigT4 (i := 13) rfl rfl
theorem seX4_isMember : Cond.selects yX4_isMember.cls yX4_isMember yX4_isMember ∈ BIG := bigT4 (i := 14) rfl rfl
theorem cdX4_isMember : Cond.code yX4_isMember cX4_isMember 1 (some .boolean) ∈ BIG := bigT4 (i := 15) rfl rfl
theorem wcX4_isMember : wCv yX4_isMember cX4_isMember 1 (some .boolean) 0 := ⟨⟨imX4_isMember, seX4_isMember, iniX4, cdX4_isMember⟩, by decide +kernel⟩
theorem wlX0_195 : Cond.methodLink RX0 195 yX4_holders ∈ BIG := bigT4 (i := 0) rfl rfl
theorem imX4_holders : Cond.instanceMethod yX4_holders ∈ BIG := bigT4 (i := 1) rfl rfl
theorem seX4_holders : Cond.selects yX4_holders.cls yX4_holders yX4_holders ∈ BIG := bigT4 (i := 2) rfl rfl
theorem cdX4_holders : Cond.code yX4_holders cX4_holders 4 (some .int) ∈ BIG := bigT4 (i := 3) rfl rfl
theorem wcX4_holders : wCv yX4_holders cX4_holders 4 (some .int) 1 := ⟨⟨imX4_holders, seX4_holders, iniX4, cdX4_holders⟩, by decide +kernel⟩
theorem wlX0_161 : Cond.methodLink RX0 161 yX1_isMember ∈ BIG := bigT4 (i := 24) rfl rfl
theorem wlX0_185 : Cond.methodLink RX0 185 yX0_sendToMembers ∈ BIG := bigT4 (i := 20) rfl rfl
theorem imX0_sendToMembers : Cond.instanceMethod yX0_sendToMembers ∈ BIG := bigT4 (i := 22) rfl rfl
theorem seX0_sendToMembers : Cond.selects yX0_sendToMembers.cls yX0_sendToMembers yX0_sendToMembers ∈ BIG := bigS2 (i := 2) (q := (yX0_sendToMembers, 9)) rfl
theorem cdX0_sendToMembers : Cond.code yX0_sendToMembers cX0_sendToMembers 3 (none) ∈ BIG := bigT4 (i := 23) rfl rfl
theorem wcX0_sendToMembers : wCv yX0_sendToMembers cX0_sendToMembers 3 (none) 1 := ⟨⟨imX0_sendToMembers, seX0_sendToMembers, iniX0, cdX0_sendToMembers⟩, by decide +kernel⟩
theorem wlX0_136 : Cond.methodLink RX0 136 yX0_commit ∈ BIG := bigT3 (i := 236) rfl rfl
theorem imX0_commit : Cond.instanceMethod yX0_commit ∈ BIG := bigT3 (i := 238) rfl rfl
theorem seX0_commit : Cond.selects yX0_commit.cls yX0_commit yX0_commit ∈ BIG := bigS2 (i := 1) (q := (yX0_commit, 9)) rfl
theorem cdX0_commit : Cond.code yX0_commit cX0_commit 4 (none) ∈ BIG := bigT3 (i := 239) rfl rfl
theorem wcX0_commit : wCv yX0_commit cX0_commit 4 (none) 1 := ⟨⟨imX0_commit, seX0_commit, iniX0, cdX0_commit⟩, by decide +kernel⟩
theorem wlX0_182 : Cond.methodLink RX0 182 yX0_becomeLeader ∈ BIG := bigT3 (i := 227) rfl rfl
theorem imX0_becomeLeader : Cond.instanceMethod yX0_becomeLeader ∈ BIG := bigT3 (i := 229) rfl rfl
theorem seX0_becomeLeader : Cond.selects yX0_becomeLeader.cls yX0_becomeLeader yX0_becomeLeader ∈ BIG := bigS2 (i := 0) (q := (yX0_becomeLeader, 9)) rfl
theorem cdX0_becomeLeader : Cond.code yX0_becomeLeader cX0_becomeLeader 2 (none) ∈ BIG := bigT3 (i := 230) rfl rfl
theorem wcX0_becomeLeader : wCv yX0_becomeLeader cX0_becomeLeader 2 (none) 1 := ⟨⟨imX0_becomeLeader, seX0_becomeLeader, iniX0, cdX0_becomeLeader⟩, by decide +kernel⟩
theorem wlX0_170 : Cond.methodLink RX0 170 yX1_lastTerm ∈ BIG := bigT4 (i := 33) rfl rfl
theorem wlX0_152 : Cond.methodLink RX0 152 yX0_stand ∈ BIG := bigT4 (i := 29) rfl rfl
theorem imX0_stand : Cond.instanceMethod yX0_stand ∈ BIG := bigT4 (i := 31) rfl rfl
theorem seX0_stand : Cond.selects yX0_stand.cls yX0_stand yX0_stand ∈ BIG := bigS2 (i := 4) (q := (yX0_stand, 9)) rfl
theorem cdX0_stand : Cond.code yX0_stand cX0_stand 4 (some .int) ∈ BIG := bigT4 (i := 32) rfl rfl
theorem wcX0_stand : wCv yX0_stand cX0_stand 4 (some .int) 1 := ⟨⟨imX0_stand, seX0_stand, iniX0, cdX0_stand⟩, by decide +kernel⟩
theorem flX0_71 : Cond.fieldLink RX0 71 "QuorumLog$Network" "count" "I" ∈ BIG := bigT2 (i := 27) rfl rfl
theorem wlX0_105 : Cond.methodLink RX0 105 yX0_countDown ∈ BIG := bigT4 (i := 25) rfl rfl
theorem imX0_countDown : Cond.instanceMethod yX0_countDown ∈ BIG := bigT4 (i := 27) rfl rfl
theorem seX0_countDown : Cond.selects yX0_countDown.cls yX0_countDown yX0_countDown ∈ BIG := bigS2 (i := 3) (q := (yX0_countDown, 9)) rfl
theorem cdX0_countDown : Cond.code yX0_countDown cX0_countDown 2 (some .int) ∈ BIG := bigT4 (i := 28) rfl rfl
theorem wcX0_countDown : wCv yX0_countDown cX0_countDown 2 (some .int) 1 := ⟨⟨imX0_countDown, seX0_countDown, iniX0, cdX0_countDown⟩, by decide +kernel⟩
theorem wlX0_101 : Cond.methodLink RX0 101 yX0_finish ∈ BIG := bigT3 (i := 223) rfl rfl
theorem imX0_finish : Cond.instanceMethod yX0_finish ∈ BIG := bigT3 (i := 225) rfl rfl
theorem seX0_finish : Cond.selects yX0_finish.cls yX0_finish yX0_finish ∈ BIG := bigS1 (i := 15) (q := (yX0_finish, 9)) rfl
theorem cdX0_finish : Cond.code yX0_finish cX0_finish 3 (none) ∈ BIG := bigT3 (i := 226) rfl rfl
theorem wcX0_finish : wCv yX0_finish cX0_finish 3 (none) 2 := ⟨⟨imX0_finish, seX0_finish, iniX0, cdX0_finish⟩, by decide +kernel⟩
theorem wlX0_74 : Cond.methodLink RX0 74 yX3_isDue ∈ BIG := bigT3 (i := 94) rfl rfl
theorem imX3_isDue : Cond.instanceMethod yX3_isDue ∈ BIG := bigT3 (i := 95) rfl rfl
theorem seX3_isDue : Cond.selects yX3_isDue.cls yX3_isDue yX3_isDue ∈ BIG := bigT3 (i := 96) rfl rfl
theorem cdX3_isDue : Cond.code yX3_isDue cX3_isDue 3 (some .boolean) ∈ BIG := bigT3 (i := 97) rfl rfl
theorem wcX3_isDue : wCv yX3_isDue cX3_isDue 3 (some .boolean) 2 := ⟨⟨imX3_isDue, seX3_isDue, iniX3, cdX3_isDue⟩, by decide +kernel⟩
theorem wlX0_78 : Cond.methodLink RX0 78 yX3_remove ∈ BIG := bigT3 (i := 98) rfl rfl
theorem imX3_remove : Cond.instanceMethod yX3_remove ∈ BIG := bigT3 (i := 99) rfl rfl
theorem seX3_remove : Cond.selects yX3_remove.cls yX3_remove yX3_remove ∈ BIG := bigT3 (i := 100) rfl rfl
theorem cdX3_remove : Cond.code yX3_remove cX3_remove 4 (none) ∈ BIG := bigT3 (i := 101) rfl rfl
theorem wcX3_remove : wCv yX3_remove cX3_remove 4 (none) 1 := ⟨⟨imX3_remove, seX3_remove, iniX3, cdX3_remove⟩, by decide +kernel⟩
theorem flX0_81 : Cond.fieldLink RX0 81 "QuorumLog$Network" "taken" "LQuorumLog$Message;" ∈ BIG := bigT2 (i := 25) rfl rfl
theorem stX6_isNode : Cond.static yX6_isNode ∈ BIG := bigT3 (i := 103) rfl rfl
theorem iniX6 : Cond.initialized RX6 ∈ BIG := bigT1 (i := 1) rfl rfl
theorem cdX6_isNode : Cond.code yX6_isNode cX6_isNode 1 (some .boolean) ∈ BIG := bigT3 (i := 104) rfl rfl
theorem wcX6_isNode : wCs yX6_isNode cX6_isNode 1 (some .boolean) 1 := ⟨⟨stX6_isNode, iniX6, cdX6_isNode⟩, by decide +kernel⟩
theorem wlX0_97 : Cond.methodLink RX0 97 yX0_receive ∈ BIG := bigT3 (i := 105) rfl rfl
theorem imX0_receive : Cond.instanceMethod yX0_receive ∈ BIG := bigT3 (i := 107) rfl rfl
theorem seX0_receive : Cond.selects yX0_receive.cls yX0_receive yX0_receive ∈ BIG := bigS1 (i := 4) (q := (yX0_receive, 9)) rfl
theorem cdX0_receive : Cond.code yX0_receive cX0_receive 3 (some .int) ∈ BIG := bigT3 (i := 108) rfl rfl
theorem wcX0_receive : wCv yX0_receive cX0_receive 3 (some .int) 2 := ⟨⟨imX0_receive, seX0_receive, iniX0, cdX0_receive⟩, by decide +kernel⟩
def mX0_resetTimer (nc : Nat) (q0 : Nat) (n1 : Nat) (μ : gM) : Option gM :=
  gLet (α := Int32) (ushr ((((μ 6 q0 3) + (5 * (μ 11 n1 7))) + (μ 11 n1 0)) * (-1640531527)) 20) fun x1 =>
  gLet (α := gM) (w3 μ 11 n1 10 (8 + (x1 &&& 7))) fun μ5 =>
  some μ5
set_option maxHeartbeats 4000000 in
set_option maxRecDepth 100000 in
theorem kX0_resetTimer (l : Launch) (D : va_G) (tc : Nat → ClassId) (sa : Nat → Nat) (ad : Nat → Nat → Nat) (nc : Nat) (hnc : 0 < nc ∧ nc ≤ 2) (hI : gI (gE_C nc) ad) (q0 : Nat) (hq0 : q0 < nc) (n1 : Nat) (hn1 : n1 < 5 * nc) (μ : gM) (μ' : gM) (h : mX0_resetTimer nc q0 n1 μ = some μ') : gMet l yX0_resetTimer cX0_resetTimer 3 (none) ({ frames := 0, cells := 0, slots := 0, locals := 0 } : Room) D (gE_C nc) gkd_C tc ad (grh_C nc) sa [.ref (ad 6 q0), .ref (ad 11 n1)] μ (none) μ' := by
  refine gMet_of hI ⟨by decide +kernel, Nat.le_of_ble_eq_true rfl⟩ (fun p e s m args below meth c sz hr hlk => ?_)
  unfold mX0_resetTimer at h
  show JC p l e ({ frames := 0, cells := 0, slots := 0, locals := 0 } : Room) s m args below meth c cX0_resetTimer 3 RX0 D tc sa ad nc sz (none) μ' μ 0 [(0, .ref (ad 6 q0)), (1, .ref (ad 11 n1))] []
  refine J_aload_n (i := 0) (q := 0) (pc1 := 1) dX0_resetTimer_0 rfl rfl rfl ?_
  refine J_getI (T := TX0) (pc1 := 4) (eC6 hq0) rfl rfl inX0 3 (by decide) rfl flX0_31 rfl dX0_resetTimer_1 rfl ?_
  refine J_iconst (v := 5) (pc1 := 5) dX0_resetTimer_4 (by decide) rfl ?_
  refine J_aload_n (i := 1) (q := 1) (pc1 := 6) dX0_resetTimer_5 rfl rfl rfl ?_
  refine J_getI (T := TX4) (pc1 := 9) (eC11 hn1) rfl rfl inX4 7 (by decide) rfl flX0_129 rfl dX0_resetTimer_6 rfl ?_
  refine J_imul (pc1 := 10) dX0_resetTimer_9 rfl ?_
  refine J_iadd (pc1 := 11) dX0_resetTimer_10 rfl ?_
  refine J_aload_n (i := 1) (q := 1) (pc1 := 12) dX0_resetTimer_11 rfl rfl rfl ?_
  refine J_getI (T := TX4) (pc1 := 15) (eC11 hn1) rfl rfl inX4 0 (by decide) rfl flX0_138 rfl dX0_resetTimer_12 rfl ?_
  refine J_iadd (pc1 := 16) dX0_resetTimer_15 rfl ?_
  refine J_ldc (v := (-1640531527)) (pc1 := 18) ctX0_141 dX0_resetTimer_16 rfl ?_
  refine J_imul (pc1 := 19) dX0_resetTimer_18 rfl ?_
  refine J_bipush (v := 20) (pc1 := 21) dX0_resetTimer_19 (by decide) rfl ?_
  refine J_iushr (pc1 := 22) dX0_resetTimer_21 rfl ?_
  obtain ⟨x1, e3, h⟩ := gLet_s h
  refine J_top (fun y2 e4 => ?_)
  have e4x : x1 = y2 := (e4.trans e3.symm).symm
  subst e4x
  refine J_istore_n (i := 2) (lv1 := [(2, .int x1), (0, .ref (ad 6 q0)), (1, .ref (ad 11 n1))]) (pc1 := 23) dX0_resetTimer_22 rfl (by decide) rfl rfl ?_
  refine J_aload_n (i := 1) (q := 2) (pc1 := 24) dX0_resetTimer_23 rfl rfl rfl ?_
  refine J_bipush (v := 8) (pc1 := 26) dX0_resetTimer_24 (by decide) rfl ?_
  refine J_iload_n (i := 2) (q := 0) (pc1 := 27) dX0_resetTimer_26 rfl rfl rfl ?_
  refine J_bipush (v := 7) (pc1 := 29) dX0_resetTimer_27 (by decide) rfl ?_
  refine J_iand (pc1 := 30) dX0_resetTimer_29 rfl ?_
  refine J_iadd (pc1 := 31) dX0_resetTimer_30 rfl ?_
  refine J_putI (T := TX4) (pc1 := 34) (eC11 hn1) rfl rfl inX4 tyX4 tyX4_ok nmX4 10 (by decide) rfl (fun _ _ _ _ => gh11) flX0_142 rfl rfl rfl rfl dX0_resetTimer_31 rfl ?_
  obtain ⟨μ5, e6, h⟩ := gLet_s h
  rw [← e6]
  clear e6
  cases h
  exact J_vret hr hlk dX0_resetTimer_34
def mX0_begin (nc : Nat) (q0 : Nat) (a1 : Int32) (a2 : Int32) (μ : gM) : Option gM :=
  gLet (α := gM) (w3 μ 6 q0 3 a2) fun μ1 =>
  gLet (α := gM) (w3 μ1 6 q0 4 0) fun μ3 =>
  gLet (α := gM) (w3 μ3 6 q0 5 0) fun μ5 =>
  gLet (α := gM) (w3 μ5 6 q0 6 0) fun μ7 =>
  gLet (α := gM) (w3 μ7 6 q0 7 0) fun μ9 =>
  gLet (α := gM) (w3 μ9 6 q0 8 0) fun μ11 =>
  gJon (fun (μ13 : gM) =>
      gBp (mX3_clear nc q0 μ13) fun μ16 =>
      gJon (fun (μ17 : gM) =>
          some μ17) fun j18 =>
      gFx2 (fun rec21 (x19 : Int32) (μ20 : gM) =>
          if 5 ≤ x19 then
            j18 μ20
          else
            gChk (inb x19 5) <|
            gBp (mX4_clear nc (5 * q0 + (x19.toNatClampNeg)) a1 μ20) fun μ25 =>
            gChk (inb x19 5) <|
            gBp (mX0_resetTimer nc q0 (5 * q0 + (x19.toNatClampNeg)) μ25) fun μ28 =>
            rec21 (x19 + 1) μ28) 1000000 0 μ16) fun j14 =>
  gFx2 (fun rec31 (x29 : Int32) (μ30 : gM) =>
      if 100 ≤ x29 then
        j14 μ30
      else
        gChk (inb x29 100) <|
        gLet (α := gM) (w3 μ30 8 q0 (x29.toNatClampNeg) (-1)) fun μ34 =>
        rec31 (x29 + 1) μ34) 1000000 0 μ11
set_option maxHeartbeats 4000000 in
set_option maxRecDepth 100000 in
theorem kX0_begin (l : Launch) (D : va_G) (tc : Nat → ClassId) (sa : Nat → Nat) (ad : Nat → Nat → Nat) (nc : Nat) (hnc : 0 < nc ∧ nc ≤ 2) (hI : gI (gE_C nc) ad) (q0 : Nat) (hq0 : q0 < nc) (a1 : Int32) (a2 : Int32) (μ : gM) (μ' : gM) (h : mX0_begin nc q0 a1 a2 μ = some μ') : gMet l yX0_begin cX0_begin 4 (none) ({ frames := 4, cells := 0, slots := 0, locals := 84 } : Room) D (gE_C nc) gkd_C tc ad (grh_C nc) sa [.ref (ad 6 q0), .int a1, .int a2] μ (none) μ' := by
  refine gMet_of hI ⟨by decide +kernel, Nat.le_of_ble_eq_true rfl⟩ (fun p e s m args below meth c sz hr hlk => ?_)
  unfold mX0_begin at h
  show JC p l e ({ frames := 4, cells := 0, slots := 0, locals := 84 } : Room) s m args below meth c cX0_begin 4 RX0 D tc sa ad nc sz (none) μ' μ 0 [(0, .ref (ad 6 q0)), (1, .int a1), (2, .int a2)] []
  refine J_aload_n (i := 0) (q := 0) (pc1 := 1) dX0_begin_0 rfl rfl rfl ?_
  refine J_iload_n (i := 2) (q := 2) (pc1 := 2) dX0_begin_1 rfl rfl rfl ?_
  refine J_putI (T := TX0) (pc1 := 5) (eC6 hq0) rfl rfl inX0 tyX0 tyX0_ok nmX0 3 (by decide) rfl (fun _ _ _ _ => gh6) flX0_31 rfl rfl rfl rfl dX0_begin_2 rfl ?_
  obtain ⟨μ1, e2, h⟩ := gLet_s h
  rw [← e2]
  clear e2
  refine J_aload_n (i := 0) (q := 0) (pc1 := 6) dX0_begin_5 rfl rfl rfl ?_
  refine J_iconst (v := 0) (pc1 := 7) dX0_begin_6 (by decide) rfl ?_
  refine J_putI (T := TX0) (pc1 := 10) (eC6 hq0) rfl rfl inX0 tyX0 tyX0_ok nmX0 4 (by decide) rfl (fun _ _ _ _ => gh6) flX0_35 rfl rfl rfl rfl dX0_begin_7 rfl ?_
  obtain ⟨μ3, e4, h⟩ := gLet_s h
  rw [← e4]
  clear e4
  refine J_aload_n (i := 0) (q := 0) (pc1 := 11) dX0_begin_10 rfl rfl rfl ?_
  refine J_iconst (v := 0) (pc1 := 12) dX0_begin_11 (by decide) rfl ?_
  refine J_putI (T := TX0) (pc1 := 15) (eC6 hq0) rfl rfl inX0 tyX0 tyX0_ok nmX0 5 (by decide) rfl (fun _ _ _ _ => gh6) flX0_38 rfl rfl rfl rfl dX0_begin_12 rfl ?_
  obtain ⟨μ5, e6, h⟩ := gLet_s h
  rw [← e6]
  clear e6
  refine J_aload_n (i := 0) (q := 0) (pc1 := 16) dX0_begin_15 rfl rfl rfl ?_
  refine J_iconst (v := 0) (pc1 := 17) dX0_begin_16 (by decide) rfl ?_
  refine J_putI (T := TX0) (pc1 := 20) (eC6 hq0) rfl rfl inX0 tyX0 tyX0_ok nmX0 6 (by decide) rfl (fun _ _ _ _ => gh6) flX0_41 rfl rfl rfl rfl dX0_begin_17 rfl ?_
  obtain ⟨μ7, e8, h⟩ := gLet_s h
  rw [← e8]
  clear e8
  refine J_aload_n (i := 0) (q := 0) (pc1 := 21) dX0_begin_20 rfl rfl rfl ?_
  refine J_iconst (v := 0) (pc1 := 22) dX0_begin_21 (by decide) rfl ?_
  refine J_putI (T := TX0) (pc1 := 25) (eC6 hq0) rfl rfl inX0 tyX0 tyX0_ok nmX0 7 (by decide) rfl (fun _ _ _ _ => gh6) flX0_44 rfl rfl rfl rfl dX0_begin_22 rfl ?_
  obtain ⟨μ9, e10, h⟩ := gLet_s h
  rw [← e10]
  clear e10
  refine J_aload_n (i := 0) (q := 0) (pc1 := 26) dX0_begin_25 rfl rfl rfl ?_
  refine J_iconst (v := 0) (pc1 := 27) dX0_begin_26 (by decide) rfl ?_
  refine J_putI (T := TX0) (pc1 := 30) (eC6 hq0) rfl rfl inX0 tyX0 tyX0_ok nmX0 8 (by decide) rfl (fun _ _ _ _ => gh6) flX0_47 rfl rfl rfl rfl dX0_begin_27 rfl ?_
  obtain ⟨μ11, e12, h⟩ := gLet_s h
  rw [← e12]
  clear e12
  refine J_iconst (v := 0) (pc1 := 31) dX0_begin_30 (by decide) rfl ?_
  refine J_istore_n (i := 3) (lv1 := [(3, .int 0), (0, .ref (ad 6 q0)), (1, .int a1), (2, .int a2)]) (pc1 := 32) dX0_begin_31 rfl (by decide) rfl rfl ?_
  obtain ⟨j14, ej14, h⟩ := gJon_s h
  have kj14 : ∀ (μ13 : gM), j14 μ13 = some μ' → JC p l e ({ frames := 4, cells := 0, slots := 0, locals := 84 } : Room) s m args below meth c cX0_begin 4 RX0 D tc sa ad nc sz (none) μ' μ13 51 [(0, .ref (ad 6 q0)), (1, .int a1)] [] := by
    intro μ13 h
    rw [ej14] at h
    try dsimp only at h
    refine J_aload_n (i := 0) (q := 0) (pc1 := 52) dX0_begin_51 rfl rfl rfl ?_
    refine J_getR (T := TX0) (f' := 9) (i' := q0) (pc1 := 55) (eC6 hq0) rfl rfl inX0 1 (by decide) rfl rfl flX0_23 rfl dX0_begin_52 rfl ?_
    obtain ⟨μ16, hc15, h⟩ := gBp_s h
    refine J_callV (As := []) (ad := ad) (f := 9) (i := q0) (st := []) (st1 := []) (pc1 := 58) (kX3_clear l D tc sa ad nc hnc hI q0 hq0 μ13 μ16 hc15) wcX3_clear wlX0_50 (eC9 hq0) rfl rfl rfl ⟨rfl, rfl, Nat.le_of_ble_eq_true rfl, Nat.le_of_ble_eq_true rfl⟩ ⟨Nat.zero_le _, Nat.zero_le _⟩ (Nat.le_of_ble_eq_true rfl) dX0_begin_55 rfl rfl ?_
    refine J_iconst (v := 0) (pc1 := 59) dX0_begin_58 (by decide) rfl ?_
    refine J_istore_n (i := 3) (lv1 := [(3, .int 0), (0, .ref (ad 6 q0)), (1, .int a1)]) (pc1 := 60) dX0_begin_59 rfl (by decide) rfl rfl ?_
    obtain ⟨j18, ej18, h⟩ := gJon_s h
    have kj18 : ∀ (μ17 : gM), j18 μ17 = some μ' → JC p l e ({ frames := 4, cells := 0, slots := 0, locals := 84 } : Room) s m args below meth c cX0_begin 4 RX0 D tc sa ad nc sz (none) μ' μ17 91 [] [] := by
      intro μ17 h
      rw [ej18] at h
      try dsimp only at h
      cases h
      exact J_vret hr hlk dX0_begin_91
    clear ej18
    refine J_sub [1, 2, 0] (lv1 := [(0, .ref (ad 6 q0)), (1, .int a1), (3, .int 0)]) rfl ?_
    refine gFx2_s (P := fun x19 μ20 => JC p l e ({ frames := 4, cells := 0, slots := 0, locals := 84 } : Room) s m args below meth c cX0_begin 4 RX0 D tc sa ad nc sz (none) μ' μ20 60 [(0, .ref (ad 6 q0)), (1, .int a1), (3, .int x19)] []) (fun rec21 ihrec21 x19 μ20 h => ?_) _ _ _ h
    try dsimp only at h
    refine J_iload_n (i := 3) (q := 2) (pc1 := 61) dX0_begin_60 rfl rfl rfl ?_
    refine J_iconst (v := 5) (pc1 := 62) dX0_begin_61 (by decide) rfl ?_
    refine J_icmp_ge (tgt := 91) (pc1 := 65) dX0_begin_62 (by decide) (fun q22 => ?_) rfl (fun q22 => ?_)
    · rw [if_pos q22] at h
      refine J_sub [] (lv1 := []) rfl ?_
      exact kj18 _ h
    · rw [if_neg q22] at h
      refine J_aload_n (i := 0) (q := 0) (pc1 := 66) dX0_begin_65 rfl rfl rfl ?_
      refine J_getR (T := TX0) (f' := 7) (i' := q0) (pc1 := 69) (eC6 hq0) rfl rfl inX0 0 (by decide) rfl rfl flX0_11 rfl dX0_begin_66 rfl ?_
      refine J_iload_n (i := 3) (q := 2) (pc1 := 70) dX0_begin_69 rfl rfl rfl ?_
      obtain ⟨h23, h⟩ := gChk_s h
      refine J_aald (f' := 11) (i' := (5 * q0 + (x19.toNatClampNeg))) (pc1 := 71) (eC7 hq0) rfl rfl h23 rfl dX0_begin_70 rfl ?_
      refine J_iload_n (i := 1) (q := 1) (pc1 := 72) dX0_begin_71 rfl rfl rfl ?_
      obtain ⟨μ25, hc24, h⟩ := gBp_s h
      refine J_callV (As := [.int a1]) (ad := ad) (f := 11) (i := (5 * q0 + (x19.toNatClampNeg))) (st := []) (st1 := []) (pc1 := 75) (kX4_clear l D tc sa ad nc hnc hI (5 * q0 + (x19.toNatClampNeg)) (gRep hq0 h23) a1 μ20 μ25 hc24) wcX4_clear wlX0_53 (eC11 (gRep hq0 h23)) rfl rfl rfl ⟨rfl, rfl, Nat.le_of_ble_eq_true rfl, Nat.le_of_ble_eq_true rfl⟩ ⟨Nat.zero_le _, Nat.zero_le _⟩ (Nat.le_of_ble_eq_true rfl) dX0_begin_72 rfl rfl ?_
      refine J_aload_n (i := 0) (q := 0) (pc1 := 76) dX0_begin_75 rfl rfl rfl ?_
      refine J_aload_n (i := 0) (q := 0) (pc1 := 77) dX0_begin_76 rfl rfl rfl ?_
      refine J_getR (T := TX0) (f' := 7) (i' := q0) (pc1 := 80) (eC6 hq0) rfl rfl inX0 0 (by decide) rfl rfl flX0_11 rfl dX0_begin_77 rfl ?_
      refine J_iload_n (i := 3) (q := 2) (pc1 := 81) dX0_begin_80 rfl rfl rfl ?_
      obtain ⟨h26, h⟩ := gChk_s h
      refine J_aald (f' := 11) (i' := (5 * q0 + (x19.toNatClampNeg))) (pc1 := 82) (eC7 hq0) rfl rfl h26 rfl dX0_begin_81 rfl ?_
      obtain ⟨μ28, hc27, h⟩ := gBp_s h
      refine J_callV (As := [.ref (ad 11 (5 * q0 + (x19.toNatClampNeg)))]) (ad := ad) (f := 6) (i := q0) (st := []) (st1 := []) (pc1 := 85) (kX0_resetTimer l D tc sa ad nc hnc hI q0 hq0 (5 * q0 + (x19.toNatClampNeg)) (gRep hq0 h26) μ25 μ28 hc27) wcX0_resetTimer wlX0_55 (eC6 hq0) rfl rfl rfl ⟨rfl, rfl, Nat.le_of_ble_eq_true rfl, Nat.le_of_ble_eq_true rfl⟩ ⟨Nat.zero_le _, Nat.zero_le _⟩ (Nat.le_of_ble_eq_true rfl) dX0_begin_82 rfl rfl ?_
      refine J_iinc (i := 3) (q := 2) (v := x19 + 1) (lv1 := [(3, .int (x19 + 1)), (0, .ref (ad 6 q0)), (1, .int a1)]) (pc1 := 88) dX0_begin_85 rfl rfl (by decide) rfl rfl ?_
      refine J_goto (tgt := 60) dX0_begin_88 (by decide) ?_
      refine J_sub [1, 2, 0] (lv1 := [(0, .ref (ad 6 q0)), (1, .int a1), (3, .int (x19 + 1))]) rfl ?_
      exact ihrec21 _ _ h
  clear ej14
  refine J_sub [1, 2, 0] (lv1 := [(0, .ref (ad 6 q0)), (1, .int a1), (3, .int 0)]) rfl ?_
  refine gFx2_s (P := fun x29 μ30 => JC p l e ({ frames := 4, cells := 0, slots := 0, locals := 84 } : Room) s m args below meth c cX0_begin 4 RX0 D tc sa ad nc sz (none) μ' μ30 32 [(0, .ref (ad 6 q0)), (1, .int a1), (3, .int x29)] []) (fun rec31 ihrec31 x29 μ30 h => ?_) _ _ _ h
  try dsimp only at h
  refine J_iload_n (i := 3) (q := 2) (pc1 := 33) dX0_begin_32 rfl rfl rfl ?_
  refine J_bipush (v := 100) (pc1 := 35) dX0_begin_33 (by decide) rfl ?_
  refine J_icmp_ge (tgt := 51) (pc1 := 38) dX0_begin_35 (by decide) (fun q32 => ?_) rfl (fun q32 => ?_)
  · rw [if_pos q32] at h
    refine J_sub [0, 1] (lv1 := [(0, .ref (ad 6 q0)), (1, .int a1)]) rfl ?_
    exact kj14 _ h
  · rw [if_neg q32] at h
    refine J_aload_n (i := 0) (q := 0) (pc1 := 39) dX0_begin_38 rfl rfl rfl ?_
    refine J_getR (T := TX0) (f' := 8) (i' := q0) (pc1 := 42) (eC6 hq0) rfl rfl inX0 2 (by decide) rfl rfl flX0_27 rfl dX0_begin_39 rfl ?_
    refine J_iload_n (i := 3) (q := 2) (pc1 := 43) dX0_begin_42 rfl rfl rfl ?_
    refine J_iconst (v := (-1)) (pc1 := 44) dX0_begin_43 (by decide) rfl ?_
    obtain ⟨h33, h⟩ := gChk_s h
    refine J_iast (ix := (x29.toNatClampNeg)) (pc1 := 45) rfl (eC8 hq0) rfl h33 dX0_begin_44 rfl ?_
    obtain ⟨μ34, e35, h⟩ := gLet_s h
    rw [← e35]
    clear e35
    refine J_iinc (i := 3) (q := 2) (v := x29 + 1) (lv1 := [(3, .int (x29 + 1)), (0, .ref (ad 6 q0)), (1, .int a1)]) (pc1 := 48) dX0_begin_45 rfl rfl (by decide) rfl rfl ?_
    refine J_goto (tgt := 32) dX0_begin_48 (by decide) ?_
    refine J_sub [1, 2, 0] (lv1 := [(0, .ref (ad 6 q0)), (1, .int a1), (3, .int (x29 + 1))]) rfl ?_
    exact ihrec31 _ _ h
def mX0_copyFrom (nc : Nat) (q0 : Nat) (q1 : Nat) (μ : gM) : Option gM :=
  gLet (α := gM) (w3 μ 6 q0 3 (μ 6 q1 3)) fun μ1 =>
  gLet (α := gM) (w3 μ1 6 q0 4 (μ1 6 q1 4)) fun μ3 =>
  gLet (α := gM) (w3 μ3 6 q0 5 (μ3 6 q1 5)) fun μ5 =>
  gLet (α := gM) (w3 μ5 6 q0 6 (μ5 6 q1 6)) fun μ7 =>
  gLet (α := gM) (w3 μ7 6 q0 7 (μ7 6 q1 7)) fun μ9 =>
  gLet (α := gM) (w3 μ9 6 q0 8 (μ9 6 q1 8)) fun μ11 =>
  gLet (α := gM) (cp3 μ11 8 q0 8 q1 0 0 100) fun μ13 =>
  gBp (mX3_copyFrom nc q0 q1 μ13) fun μ16 =>
  gJon (fun (μ17 : gM) =>
      some μ17) fun j18 =>
  gFx2 (fun rec21 (x19 : Int32) (μ20 : gM) =>
      if 5 ≤ x19 then
        j18 μ20
      else
        gChk (inb x19 5) <|
        gChk (inb x19 5) <|
        gBp (mX4_copyFrom nc (5 * q0 + (x19.toNatClampNeg)) (5 * q1 + (x19.toNatClampNeg)) μ20) fun μ26 =>
        rec21 (x19 + 1) μ26) 1000000 0 μ16
set_option maxHeartbeats 4000000 in
set_option maxRecDepth 100000 in
theorem kX0_copyFrom (l : Launch) (D : va_G) (tc : Nat → ClassId) (sa : Nat → Nat) (ad : Nat → Nat → Nat) (nc : Nat) (hnc : 0 < nc ∧ nc ≤ 2) (hI : gI (gE_C nc) ad) (q0 : Nat) (hq0 : q0 < nc) (q1 : Nat) (hq1 : q1 < nc) (μ : gM) (μ' : gM) (h : mX0_copyFrom nc q0 q1 μ = some μ') : gMet l yX0_copyFrom cX0_copyFrom 3 (none) ({ frames := 4, cells := 0, slots := 0, locals := 123 } : Room) D (gE_C nc) gkd_C tc ad (grh_C nc) sa [.ref (ad 6 q0), .ref (ad 6 q1)] μ (none) μ' := by
  refine gMet_of hI ⟨by decide +kernel, Nat.le_of_ble_eq_true rfl⟩ (fun p e s m args below meth c sz hr hlk => ?_)
  unfold mX0_copyFrom at h
  show JC p l e ({ frames := 4, cells := 0, slots := 0, locals := 123 } : Room) s m args below meth c cX0_copyFrom 3 RX0 D tc sa ad nc sz (none) μ' μ 0 [(0, .ref (ad 6 q0)), (1, .ref (ad 6 q1))] []
  refine J_aload_n (i := 0) (q := 0) (pc1 := 1) dX0_copyFrom_0 rfl rfl rfl ?_
  refine J_aload_n (i := 1) (q := 1) (pc1 := 2) dX0_copyFrom_1 rfl rfl rfl ?_
  refine J_getI (T := TX0) (pc1 := 5) (eC6 hq1) rfl rfl inX0 3 (by decide) rfl flX0_31 rfl dX0_copyFrom_2 rfl ?_
  refine J_putI (T := TX0) (pc1 := 8) (eC6 hq0) rfl rfl inX0 tyX0 tyX0_ok nmX0 3 (by decide) rfl (fun _ _ _ _ => gh6) flX0_31 rfl rfl rfl rfl dX0_copyFrom_5 rfl ?_
  obtain ⟨μ1, e2, h⟩ := gLet_s h
  rw [← e2]
  clear e2
  refine J_aload_n (i := 0) (q := 0) (pc1 := 9) dX0_copyFrom_8 rfl rfl rfl ?_
  refine J_aload_n (i := 1) (q := 1) (pc1 := 10) dX0_copyFrom_9 rfl rfl rfl ?_
  refine J_getI (T := TX0) (pc1 := 13) (eC6 hq1) rfl rfl inX0 4 (by decide) rfl flX0_35 rfl dX0_copyFrom_10 rfl ?_
  refine J_putI (T := TX0) (pc1 := 16) (eC6 hq0) rfl rfl inX0 tyX0 tyX0_ok nmX0 4 (by decide) rfl (fun _ _ _ _ => gh6) flX0_35 rfl rfl rfl rfl dX0_copyFrom_13 rfl ?_
  obtain ⟨μ3, e4, h⟩ := gLet_s h
  rw [← e4]
  clear e4
  refine J_aload_n (i := 0) (q := 0) (pc1 := 17) dX0_copyFrom_16 rfl rfl rfl ?_
  refine J_aload_n (i := 1) (q := 1) (pc1 := 18) dX0_copyFrom_17 rfl rfl rfl ?_
  refine J_getI (T := TX0) (pc1 := 21) (eC6 hq1) rfl rfl inX0 5 (by decide) rfl flX0_38 rfl dX0_copyFrom_18 rfl ?_
  refine J_putI (T := TX0) (pc1 := 24) (eC6 hq0) rfl rfl inX0 tyX0 tyX0_ok nmX0 5 (by decide) rfl (fun _ _ _ _ => gh6) flX0_38 rfl rfl rfl rfl dX0_copyFrom_21 rfl ?_
  obtain ⟨μ5, e6, h⟩ := gLet_s h
  rw [← e6]
  clear e6
  refine J_aload_n (i := 0) (q := 0) (pc1 := 25) dX0_copyFrom_24 rfl rfl rfl ?_
  refine J_aload_n (i := 1) (q := 1) (pc1 := 26) dX0_copyFrom_25 rfl rfl rfl ?_
  refine J_getI (T := TX0) (pc1 := 29) (eC6 hq1) rfl rfl inX0 6 (by decide) rfl flX0_41 rfl dX0_copyFrom_26 rfl ?_
  refine J_putI (T := TX0) (pc1 := 32) (eC6 hq0) rfl rfl inX0 tyX0 tyX0_ok nmX0 6 (by decide) rfl (fun _ _ _ _ => gh6) flX0_41 rfl rfl rfl rfl dX0_copyFrom_29 rfl ?_
  obtain ⟨μ7, e8, h⟩ := gLet_s h
  rw [← e8]
  clear e8
  refine J_aload_n (i := 0) (q := 0) (pc1 := 33) dX0_copyFrom_32 rfl rfl rfl ?_
  refine J_aload_n (i := 1) (q := 1) (pc1 := 34) dX0_copyFrom_33 rfl rfl rfl ?_
  refine J_getI (T := TX0) (pc1 := 37) (eC6 hq1) rfl rfl inX0 7 (by decide) rfl flX0_44 rfl dX0_copyFrom_34 rfl ?_
  refine J_putI (T := TX0) (pc1 := 40) (eC6 hq0) rfl rfl inX0 tyX0 tyX0_ok nmX0 7 (by decide) rfl (fun _ _ _ _ => gh6) flX0_44 rfl rfl rfl rfl dX0_copyFrom_37 rfl ?_
  obtain ⟨μ9, e10, h⟩ := gLet_s h
  rw [← e10]
  clear e10
  refine J_aload_n (i := 0) (q := 0) (pc1 := 41) dX0_copyFrom_40 rfl rfl rfl ?_
  refine J_aload_n (i := 1) (q := 1) (pc1 := 42) dX0_copyFrom_41 rfl rfl rfl ?_
  refine J_getI (T := TX0) (pc1 := 45) (eC6 hq1) rfl rfl inX0 8 (by decide) rfl flX0_47 rfl dX0_copyFrom_42 rfl ?_
  refine J_putI (T := TX0) (pc1 := 48) (eC6 hq0) rfl rfl inX0 tyX0 tyX0_ok nmX0 8 (by decide) rfl (fun _ _ _ _ => gh6) flX0_47 rfl rfl rfl rfl dX0_copyFrom_45 rfl ?_
  obtain ⟨μ11, e12, h⟩ := gLet_s h
  rw [← e12]
  clear e12
  refine J_aload_n (i := 1) (q := 1) (pc1 := 49) dX0_copyFrom_48 rfl rfl rfl ?_
  refine J_getR (T := TX0) (f' := 8) (i' := q1) (pc1 := 52) (eC6 hq1) rfl rfl inX0 2 (by decide) rfl rfl flX0_27 rfl dX0_copyFrom_49 rfl ?_
  refine J_iconst (v := 0) (pc1 := 53) dX0_copyFrom_52 (by decide) rfl ?_
  refine J_aload_n (i := 0) (q := 0) (pc1 := 54) dX0_copyFrom_53 rfl rfl rfl ?_
  refine J_getR (T := TX0) (f' := 8) (i' := q0) (pc1 := 57) (eC6 hq0) rfl rfl inX0 2 (by decide) rfl rfl flX0_27 rfl dX0_copyFrom_54 rfl ?_
  refine J_iconst (v := 0) (pc1 := 58) dX0_copyFrom_57 (by decide) rfl ?_
  refine J_bipush (v := 100) (pc1 := 60) dX0_copyFrom_58 (by decide) rfl ?_
  refine J_copy (μ' := cp3 μ11 8 q0 8 q1 0 0 100) (pc1 := 63) (eC8 hq1) rfl (eC8 hq0) rfl wlX0_59 acNat acSt iniSys (by decide) (by decide) (by decide) (by decide) (by decide) (cp3_at _ _ _ _ _ _ _ _) (fun _ _ hne => cp3_ne hne) ⟨Nat.le_of_ble_eq_true rfl, Nat.le_of_ble_eq_true rfl⟩ dX0_copyFrom_60 rfl ?_
  obtain ⟨μ13, e14, h⟩ := gLet_s h
  rw [← e14]
  clear e14
  refine J_aload_n (i := 0) (q := 0) (pc1 := 64) dX0_copyFrom_63 rfl rfl rfl ?_
  refine J_getR (T := TX0) (f' := 9) (i' := q0) (pc1 := 67) (eC6 hq0) rfl rfl inX0 1 (by decide) rfl rfl flX0_23 rfl dX0_copyFrom_64 rfl ?_
  refine J_aload_n (i := 1) (q := 1) (pc1 := 68) dX0_copyFrom_67 rfl rfl rfl ?_
  refine J_getR (T := TX0) (f' := 9) (i' := q1) (pc1 := 71) (eC6 hq1) rfl rfl inX0 1 (by decide) rfl rfl flX0_23 rfl dX0_copyFrom_68 rfl ?_
  obtain ⟨μ16, hc15, h⟩ := gBp_s h
  refine J_callV (As := [.ref (ad 9 q1)]) (ad := ad) (f := 9) (i := q0) (st := []) (st1 := []) (pc1 := 74) (kX3_copyFrom l D tc sa ad nc hnc hI q0 hq0 q1 hq1 μ13 μ16 hc15) wcX3_copyFrom wlX0_65 (eC9 hq0) rfl rfl rfl ⟨rfl, rfl, Nat.le_of_ble_eq_true rfl, Nat.le_of_ble_eq_true rfl⟩ ⟨Nat.zero_le _, Nat.zero_le _⟩ (Nat.le_of_ble_eq_true rfl) dX0_copyFrom_71 rfl rfl ?_
  refine J_iconst (v := 0) (pc1 := 75) dX0_copyFrom_74 (by decide) rfl ?_
  refine J_istore_n (i := 2) (lv1 := [(2, .int 0), (0, .ref (ad 6 q0)), (1, .ref (ad 6 q1))]) (pc1 := 76) dX0_copyFrom_75 rfl (by decide) rfl rfl ?_
  obtain ⟨j18, ej18, h⟩ := gJon_s h
  have kj18 : ∀ (μ17 : gM), j18 μ17 = some μ' → JC p l e ({ frames := 4, cells := 0, slots := 0, locals := 123 } : Room) s m args below meth c cX0_copyFrom 3 RX0 D tc sa ad nc sz (none) μ' μ17 102 [] [] := by
    intro μ17 h
    rw [ej18] at h
    try dsimp only at h
    cases h
    exact J_vret hr hlk dX0_copyFrom_102
  clear ej18
  refine J_sub [1, 2, 0] (lv1 := [(0, .ref (ad 6 q0)), (1, .ref (ad 6 q1)), (2, .int 0)]) rfl ?_
  refine gFx2_s (P := fun x19 μ20 => JC p l e ({ frames := 4, cells := 0, slots := 0, locals := 123 } : Room) s m args below meth c cX0_copyFrom 3 RX0 D tc sa ad nc sz (none) μ' μ20 76 [(0, .ref (ad 6 q0)), (1, .ref (ad 6 q1)), (2, .int x19)] []) (fun rec21 ihrec21 x19 μ20 h => ?_) _ _ _ h
  try dsimp only at h
  refine J_iload_n (i := 2) (q := 2) (pc1 := 77) dX0_copyFrom_76 rfl rfl rfl ?_
  refine J_iconst (v := 5) (pc1 := 78) dX0_copyFrom_77 (by decide) rfl ?_
  refine J_icmp_ge (tgt := 102) (pc1 := 81) dX0_copyFrom_78 (by decide) (fun q22 => ?_) rfl (fun q22 => ?_)
  · rw [if_pos q22] at h
    refine J_sub [] (lv1 := []) rfl ?_
    exact kj18 _ h
  · rw [if_neg q22] at h
    refine J_aload_n (i := 0) (q := 0) (pc1 := 82) dX0_copyFrom_81 rfl rfl rfl ?_
    refine J_getR (T := TX0) (f' := 7) (i' := q0) (pc1 := 85) (eC6 hq0) rfl rfl inX0 0 (by decide) rfl rfl flX0_11 rfl dX0_copyFrom_82 rfl ?_
    refine J_iload_n (i := 2) (q := 2) (pc1 := 86) dX0_copyFrom_85 rfl rfl rfl ?_
    obtain ⟨h23, h⟩ := gChk_s h
    refine J_aald (f' := 11) (i' := (5 * q0 + (x19.toNatClampNeg))) (pc1 := 87) (eC7 hq0) rfl rfl h23 rfl dX0_copyFrom_86 rfl ?_
    refine J_aload_n (i := 1) (q := 1) (pc1 := 88) dX0_copyFrom_87 rfl rfl rfl ?_
    refine J_getR (T := TX0) (f' := 7) (i' := q1) (pc1 := 91) (eC6 hq1) rfl rfl inX0 0 (by decide) rfl rfl flX0_11 rfl dX0_copyFrom_88 rfl ?_
    refine J_iload_n (i := 2) (q := 2) (pc1 := 92) dX0_copyFrom_91 rfl rfl rfl ?_
    obtain ⟨h24, h⟩ := gChk_s h
    refine J_aald (f' := 11) (i' := (5 * q1 + (x19.toNatClampNeg))) (pc1 := 93) (eC7 hq1) rfl rfl h24 rfl dX0_copyFrom_92 rfl ?_
    obtain ⟨μ26, hc25, h⟩ := gBp_s h
    refine J_callV (As := [.ref (ad 11 (5 * q1 + (x19.toNatClampNeg)))]) (ad := ad) (f := 11) (i := (5 * q0 + (x19.toNatClampNeg))) (st := []) (st1 := []) (pc1 := 96) (kX4_copyFrom l D tc sa ad nc hnc hI (5 * q0 + (x19.toNatClampNeg)) (gRep hq0 h23) (5 * q1 + (x19.toNatClampNeg)) (gRep hq1 h24) μ20 μ26 hc25) wcX4_copyFrom wlX0_69 (eC11 (gRep hq0 h23)) rfl rfl rfl ⟨rfl, rfl, Nat.le_of_ble_eq_true rfl, Nat.le_of_ble_eq_true rfl⟩ ⟨Nat.zero_le _, Nat.zero_le _⟩ (Nat.le_of_ble_eq_true rfl) dX0_copyFrom_93 rfl rfl ?_
    refine J_iinc (i := 2) (q := 2) (v := x19 + 1) (lv1 := [(2, .int (x19 + 1)), (0, .ref (ad 6 q0)), (1, .ref (ad 6 q1))]) (pc1 := 99) dX0_copyFrom_96 rfl rfl (by decide) rfl rfl ?_
    refine J_goto (tgt := 76) dX0_copyFrom_99 (by decide) ?_
    refine J_sub [1, 2, 0] (lv1 := [(0, .ref (ad 6 q0)), (1, .ref (ad 6 q1)), (2, .int (x19 + 1))]) rfl ?_
    exact ihrec21 _ _ h
def mX0_open (nc : Nat) (q0 : Nat) (a1 : Int32) (n2 : Nat) (a3 : Int32) (μ : gM) : Option (Nat × gM) :=
  gLet (α := Nat) ((μ 9 q0 1).toNatClampNeg) fun t1 =>
  gChk (t1 < 42 * nc) <|
  gBp (mX2_clear nc t1 μ) fun μ5 =>
  gLet (α := gM) (w3 μ5 19 t1 4 a1) fun μ6 =>
  gLet (α := gM) (w3 μ6 19 t1 5 (μ6 11 n2 0)) fun μ8 =>
  gLet (α := gM) (w3 μ8 19 t1 6 a3) fun μ10 =>
  gLet (α := gM) (w3 μ10 19 t1 7 (μ10 11 n2 7)) fun μ12 =>
  gLet (α := gM) (w3 μ12 19 t1 8 ((μ12 6 q0 4) + (μ12 9 q0 5))) fun μ14 =>
  gLet (α := gM) (w3 μ14 19 t1 9 (μ14 6 q0 4)) fun μ16 =>
  some (t1, μ16)
set_option maxHeartbeats 4000000 in
set_option maxRecDepth 100000 in
theorem kX0_open (l : Launch) (D : va_G) (tc : Nat → ClassId) (sa : Nat → Nat) (ad : Nat → Nat → Nat) (nc : Nat) (hnc : 0 < nc ∧ nc ≤ 2) (hI : gI (gE_C nc) ad) (q0 : Nat) (hq0 : q0 < nc) (a1 : Int32) (n2 : Nat) (hn2 : n2 < 5 * nc) (a3 : Int32) (μ : gM) (r : Nat) (μ' : gM) (h : mX0_open nc q0 a1 n2 a3 μ = some (r, μ')) : gMet l yX0_open cX0_open 5 (some (.object "QuorumLog$Message")) ({ frames := 1, cells := 0, slots := 0, locals := 20 } : Room) D (gE_C nc) gkd_C tc ad (grh_C nc) sa [.ref (ad 6 q0), .int a1, .ref (ad 11 n2), .int a3] μ (some (.ref (ad 19 r))) μ' := by
  refine gMet_of hI ⟨by decide +kernel, Nat.le_of_ble_eq_true rfl⟩ (fun p e s m args below meth c sz hr hlk => ?_)
  unfold mX0_open at h
  show JC p l e ({ frames := 1, cells := 0, slots := 0, locals := 20 } : Room) s m args below meth c cX0_open 5 RX0 D tc sa ad nc sz (some (.ref (ad 19 r))) μ' μ 0 [(0, .ref (ad 6 q0)), (1, .int a1), (2, .ref (ad 11 n2)), (3, .int a3)] []
  refine J_aload_n (i := 0) (q := 0) (pc1 := 1) dX0_open_0 rfl rfl rfl ?_
  refine J_getR (T := TX0) (f' := 9) (i' := q0) (pc1 := 4) (eC6 hq0) rfl rfl inX0 1 (by decide) rfl rfl flX0_23 rfl dX0_open_1 rfl ?_
  obtain ⟨t1, e2, h⟩ := gLet_s h
  obtain ⟨h3, h⟩ := gChk_s h
  refine J_getR (T := TX3) (f' := 19) (i' := t1) (pc1 := 7) (eC9 hq0) rfl rfl inX3 1 (by decide) rfl (by rw [e2]; rfl) flX0_225 rfl dX0_open_4 rfl ?_
  refine J_astore (i := 4) (lv1 := [(4, .ref (ad 19 t1)), (0, .ref (ad 6 q0)), (1, .int a1), (2, .ref (ad 11 n2)), (3, .int a3)]) (pc1 := 9) dX0_open_7 (by decide) rfl rfl ?_
  refine J_aload (i := 4) (q := 0) (pc1 := 11) dX0_open_9 rfl rfl ?_
  obtain ⟨μ5, hc4, h⟩ := gBp_s h
  refine J_callV (As := []) (ad := ad) (f := 19) (i := t1) (st := []) (st1 := []) (pc1 := 14) (kX2_clear l D tc sa ad nc hnc hI t1 h3 μ μ5 hc4) wcX2_clear wlX0_228 (eC19 h3) rfl rfl rfl ⟨rfl, rfl, Nat.le_of_ble_eq_true rfl, Nat.le_of_ble_eq_true rfl⟩ ⟨Nat.zero_le _, Nat.zero_le _⟩ (Nat.le_of_ble_eq_true rfl) dX0_open_11 rfl rfl ?_
  refine J_aload (i := 4) (q := 0) (pc1 := 16) dX0_open_14 rfl rfl ?_
  refine J_iload_n (i := 1) (q := 2) (pc1 := 17) dX0_open_16 rfl rfl rfl ?_
  refine J_putI (T := TX2) (pc1 := 20) (eC19 h3) rfl rfl inX2 tyX2 tyX2_ok nmX2 4 (by decide) rfl (fun _ _ _ _ => gh19) flX0_229 rfl rfl rfl rfl dX0_open_17 rfl ?_
  obtain ⟨μ6, e7, h⟩ := gLet_s h
  rw [← e7]
  clear e7
  refine J_aload (i := 4) (q := 0) (pc1 := 22) dX0_open_20 rfl rfl ?_
  refine J_aload_n (i := 2) (q := 3) (pc1 := 23) dX0_open_22 rfl rfl rfl ?_
  refine J_getI (T := TX4) (pc1 := 26) (eC11 hn2) rfl rfl inX4 0 (by decide) rfl flX0_138 rfl dX0_open_23 rfl ?_
  refine J_putI (T := TX2) (pc1 := 29) (eC19 h3) rfl rfl inX2 tyX2 tyX2_ok nmX2 5 (by decide) rfl (fun _ _ _ _ => gh19) flX0_85 rfl rfl rfl rfl dX0_open_26 rfl ?_
  obtain ⟨μ8, e9, h⟩ := gLet_s h
  rw [← e9]
  clear e9
  refine J_aload (i := 4) (q := 0) (pc1 := 31) dX0_open_29 rfl rfl ?_
  refine J_iload_n (i := 3) (q := 4) (pc1 := 32) dX0_open_31 rfl rfl rfl ?_
  refine J_putI (T := TX2) (pc1 := 35) (eC19 h3) rfl rfl inX2 tyX2 tyX2_ok nmX2 6 (by decide) rfl (fun _ _ _ _ => gh19) flX0_94 rfl rfl rfl rfl dX0_open_32 rfl ?_
  obtain ⟨μ10, e11, h⟩ := gLet_s h
  rw [← e11]
  clear e11
  refine J_aload (i := 4) (q := 0) (pc1 := 37) dX0_open_35 rfl rfl ?_
  refine J_aload_n (i := 2) (q := 3) (pc1 := 38) dX0_open_37 rfl rfl rfl ?_
  refine J_getI (T := TX4) (pc1 := 41) (eC11 hn2) rfl rfl inX4 7 (by decide) rfl flX0_129 rfl dX0_open_38 rfl ?_
  refine J_putI (T := TX2) (pc1 := 44) (eC19 h3) rfl rfl inX2 tyX2 tyX2_ok nmX2 7 (by decide) rfl (fun _ _ _ _ => gh19) flX0_232 rfl rfl rfl rfl dX0_open_41 rfl ?_
  obtain ⟨μ12, e13, h⟩ := gLet_s h
  rw [← e13]
  clear e13
  refine J_aload (i := 4) (q := 0) (pc1 := 46) dX0_open_44 rfl rfl ?_
  refine J_aload_n (i := 0) (q := 1) (pc1 := 47) dX0_open_46 rfl rfl rfl ?_
  refine J_getI (T := TX0) (pc1 := 50) (eC6 hq0) rfl rfl inX0 4 (by decide) rfl flX0_35 rfl dX0_open_47 rfl ?_
  refine J_aload_n (i := 0) (q := 1) (pc1 := 51) dX0_open_50 rfl rfl rfl ?_
  refine J_getR (T := TX0) (f' := 9) (i' := q0) (pc1 := 54) (eC6 hq0) rfl rfl inX0 1 (by decide) rfl rfl flX0_23 rfl dX0_open_51 rfl ?_
  refine J_getI (T := TX3) (pc1 := 57) (eC9 hq0) rfl rfl inX3 5 (by decide) rfl flX0_233 rfl dX0_open_54 rfl ?_
  refine J_iadd (pc1 := 58) dX0_open_57 rfl ?_
  refine J_putI (T := TX2) (pc1 := 61) (eC19 h3) rfl rfl inX2 tyX2 tyX2_ok nmX2 8 (by decide) rfl (fun _ _ _ _ => gh19) flX0_236 rfl rfl rfl rfl dX0_open_58 rfl ?_
  obtain ⟨μ14, e15, h⟩ := gLet_s h
  rw [← e15]
  clear e15
  refine J_aload (i := 4) (q := 0) (pc1 := 63) dX0_open_61 rfl rfl ?_
  refine J_aload_n (i := 0) (q := 1) (pc1 := 64) dX0_open_63 rfl rfl rfl ?_
  refine J_getI (T := TX0) (pc1 := 67) (eC6 hq0) rfl rfl inX0 4 (by decide) rfl flX0_35 rfl dX0_open_64 rfl ?_
  refine J_putI (T := TX2) (pc1 := 70) (eC19 h3) rfl rfl inX2 tyX2 tyX2_ok nmX2 9 (by decide) rfl (fun _ _ _ _ => gh19) flX0_239 rfl rfl rfl rfl dX0_open_67 rfl ?_
  obtain ⟨μ16, e17, h⟩ := gLet_s h
  rw [← e17]
  clear e17
  refine J_aload (i := 4) (q := 0) (pc1 := 72) dX0_open_70 rfl rfl ?_
  cases h
  exact J_aret hr hlk dX0_open_72
def mX0_takeRequest (nc : Nat) (q0 : Nat) (n1 : Nat) (t2 : Nat) (μ : gM) : Option (Int32 × gM) :=
  gJon (fun (x1 : Int32) =>
      gJon (fun (μ3 : gM) =>
          gBd (mX0_open nc q0 1 n1 (μ3 19 t2 5) μ3) fun r6 μ7 =>
          gChk (r6 < 42 * nc) <|
          gChk (x1 = 0 ∨ x1 = 1) <|
          gLet (α := gM) (w3 μ7 19 r6 12 x1) fun μ10 =>
          gBp (mX3_post nc q0 μ10) fun μ13 =>
          some (0, μ13)) fun j4 =>
      if x1 = 0 then
        j4 μ
      else
        gLet (α := gM) (w3 μ 11 n1 8 (μ 19 t2 5)) fun μ15 =>
        gBp (mX0_resetTimer nc q0 n1 μ15) fun μ18 =>
        j4 μ18) fun j2 =>
  gJon (fun (u20 : Unit) =>
      j2 0) fun j19 =>
  if (μ 19 t2 7) = (μ 11 n1 7) then
    gJon (fun (u45 : Unit) =>
        gBp (mX1_isNotAheadOf nc n1 (μ 19 t2 10) (μ 19 t2 11) μ) fun r24 =>
        gLet (α := Int32) (if r24 = 0 then 0 else 1) fun x25 =>
        gJon (fun (μ29 : gM) =>
            gBd (mX0_open nc q0 1 n1 (μ29 19 t2 5) μ29) fun r32 μ33 =>
            gChk (r32 < 42 * nc) <|
            gChk (x25 = 0 ∨ x25 = 1) <|
            gLet (α := gM) (w3 μ33 19 r32 12 x25) fun μ36 =>
            gBp (mX3_post nc q0 μ36) fun μ39 =>
            some (0, μ39)) fun j30 =>
        if x25 = 0 then
          j30 μ
        else
          gLet (α := gM) (w3 μ 11 n1 8 (μ 19 t2 5)) fun μ41 =>
          gBp (mX0_resetTimer nc q0 n1 μ41) fun μ44 =>
          j30 μ44) fun j22 =>
    if (μ 11 n1 8) = (-1) then
      j22 () 
    else
      if (μ 11 n1 8) = (μ 19 t2 5) then
        j22 () 
      else
        j19 () 
  else
    j19 () 
set_option maxHeartbeats 4000000 in
set_option maxRecDepth 100000 in
theorem kX0_takeRequest (l : Launch) (D : va_G) (tc : Nat → ClassId) (sa : Nat → Nat) (ad : Nat → Nat → Nat) (nc : Nat) (hnc : 0 < nc ∧ nc ≤ 2) (hI : gI (gE_C nc) ad) (q0 : Nat) (hq0 : q0 < nc) (n1 : Nat) (hn1 : n1 < 5 * nc) (t2 : Nat) (ht2 : t2 < 42 * nc) (μ : gM) (r : Int32) (μ' : gM) (h : mX0_takeRequest nc q0 n1 t2 μ = some (r, μ')) : gMet l yX0_takeRequest cX0_takeRequest 5 (some .int) ({ frames := 2, cells := 0, slots := 0, locals := 44 } : Room) D (gE_C nc) gkd_C tc ad (grh_C nc) sa [.ref (ad 6 q0), .ref (ad 11 n1), .ref (ad 19 t2)] μ (some (.int r)) μ' := by
  refine gMet_of hI ⟨by decide +kernel, Nat.le_of_ble_eq_true rfl⟩ (fun p e s m args below meth c sz hr hlk => ?_)
  unfold mX0_takeRequest at h
  show JC p l e ({ frames := 2, cells := 0, slots := 0, locals := 44 } : Room) s m args below meth c cX0_takeRequest 5 RX0 D tc sa ad nc sz (some (.int r)) μ' μ 0 [(0, .ref (ad 6 q0)), (1, .ref (ad 11 n1)), (2, .ref (ad 19 t2))] []
  refine J_aload_n (i := 2) (q := 2) (pc1 := 1) dX0_takeRequest_0 rfl rfl rfl ?_
  refine J_getI (T := TX2) (pc1 := 4) (eC19 ht2) rfl rfl inX2 7 (by decide) rfl flX0_232 rfl dX0_takeRequest_1 rfl ?_
  refine J_aload_n (i := 1) (q := 1) (pc1 := 5) dX0_takeRequest_4 rfl rfl rfl ?_
  refine J_getI (T := TX4) (pc1 := 8) (eC11 hn1) rfl rfl inX4 7 (by decide) rfl flX0_129 rfl dX0_takeRequest_5 rfl ?_
  obtain ⟨j2, ej2, h⟩ := gJon_s h
  have kj2 : ∀ (x1 : Int32), j2 x1 = some (r, μ') → JC p l e ({ frames := 2, cells := 0, slots := 0, locals := 44 } : Room) s m args below meth c cX0_takeRequest 5 RX0 D tc sa ad nc sz (some (.int r)) μ' μ 53 [(0, .ref (ad 6 q0)), (1, .ref (ad 11 n1)), (2, .ref (ad 19 t2))] [.int x1] := by
    intro x1 h
    rw [ej2] at h
    try dsimp only at h
    refine J_istore_n (i := 3) (lv1 := [(3, .int x1), (0, .ref (ad 6 q0)), (1, .ref (ad 11 n1)), (2, .ref (ad 19 t2))]) (pc1 := 54) dX0_takeRequest_53 rfl (by decide) rfl rfl ?_
    refine J_iload_n (i := 3) (q := 0) (pc1 := 55) dX0_takeRequest_54 rfl rfl rfl ?_
    obtain ⟨j4, ej4, h⟩ := gJon_s h
    have kj4 : ∀ (μ3 : gM), j4 μ3 = some (r, μ') → JC p l e ({ frames := 2, cells := 0, slots := 0, locals := 44 } : Room) s m args below meth c cX0_takeRequest 5 RX0 D tc sa ad nc sz (some (.int r)) μ' μ3 71 [(0, .ref (ad 6 q0)), (1, .ref (ad 11 n1)), (2, .ref (ad 19 t2)), (3, .int x1)] [] := by
      intro μ3 h
      rw [ej4] at h
      try dsimp only at h
      refine J_aload_n (i := 0) (q := 0) (pc1 := 72) dX0_takeRequest_71 rfl rfl rfl ?_
      refine J_iconst (v := 1) (pc1 := 73) dX0_takeRequest_72 (by decide) rfl ?_
      refine J_aload_n (i := 1) (q := 1) (pc1 := 74) dX0_takeRequest_73 rfl rfl rfl ?_
      refine J_aload_n (i := 2) (q := 2) (pc1 := 75) dX0_takeRequest_74 rfl rfl rfl ?_
      refine J_getI (T := TX2) (pc1 := 78) (eC19 ht2) rfl rfl inX2 5 (by decide) rfl flX0_85 rfl dX0_takeRequest_75 rfl ?_
      obtain ⟨r6, μ7, hc5, h⟩ := gBd_s h
      obtain ⟨h8, h⟩ := gChk_s h
      refine J_callV (As := [.int 1, .ref (ad 11 n1), .int (μ3 19 t2 5)]) (ad := ad) (f := 6) (i := q0) (st := []) (st1 := [.ref (ad 19 r6)]) (pc1 := 81) (kX0_open l D tc sa ad nc hnc hI q0 hq0 1 n1 hn1 (μ3 19 t2 5) μ3 r6 μ7 hc5) wcX0_open wlX0_163 (eC6 hq0) rfl rfl rfl ⟨rfl, rfl, Nat.le_of_ble_eq_true rfl, Nat.le_of_ble_eq_true rfl⟩ ⟨Nat.zero_le _, Nat.zero_le _⟩ (Nat.le_of_ble_eq_true rfl) dX0_takeRequest_78 rfl rfl ?_
      refine J_astore (i := 4) (lv1 := [(4, .ref (ad 19 r6)), (0, .ref (ad 6 q0)), (1, .ref (ad 11 n1)), (2, .ref (ad 19 t2)), (3, .int x1)]) (pc1 := 83) dX0_takeRequest_81 (by decide) rfl rfl ?_
      refine J_aload (i := 4) (q := 0) (pc1 := 85) dX0_takeRequest_83 rfl rfl ?_
      refine J_iload_n (i := 3) (q := 4) (pc1 := 86) dX0_takeRequest_85 rfl rfl rfl ?_
      obtain ⟨h9, h⟩ := gChk_s h
      refine J_putI (T := TX2) (pc1 := 89) (eC19 h8) rfl rfl inX2 tyX2 tyX2_ok nmX2 12 (by decide) rfl (fun _ _ _ _ => gh19) flX0_267 rfl rfl (gZn h9) (gZf h9) dX0_takeRequest_86 rfl ?_
      obtain ⟨μ10, e11, h⟩ := gLet_s h
      rw [← e11]
      clear e11
      refine J_aload_n (i := 0) (q := 1) (pc1 := 90) dX0_takeRequest_89 rfl rfl rfl ?_
      refine J_getR (T := TX0) (f' := 9) (i' := q0) (pc1 := 93) (eC6 hq0) rfl rfl inX0 1 (by decide) rfl rfl flX0_23 rfl dX0_takeRequest_90 rfl ?_
      obtain ⟨μ13, hc12, h⟩ := gBp_s h
      refine J_callV (As := []) (ad := ad) (f := 9) (i := q0) (st := []) (st1 := []) (pc1 := 96) (kX3_post l D tc sa ad nc hnc hI q0 hq0 μ10 μ13 hc12) wcX3_post wlX0_176 (eC9 hq0) rfl rfl rfl ⟨rfl, rfl, Nat.le_of_ble_eq_true rfl, Nat.le_of_ble_eq_true rfl⟩ ⟨Nat.zero_le _, Nat.zero_le _⟩ (Nat.le_of_ble_eq_true rfl) dX0_takeRequest_93 rfl rfl ?_
      refine J_iconst (v := 0) (pc1 := 97) dX0_takeRequest_96 (by decide) rfl ?_
      cases h
      exact J_iret hr hlk dX0_takeRequest_97
    clear ej4
    refine J_if_eq (tgt := 71) (pc1 := 58) dX0_takeRequest_55 (by decide) (fun q14 => ?_) rfl (fun q14 => ?_)
    · rw [if_pos q14] at h
      refine J_sub [1, 2, 3, 0] (lv1 := [(0, .ref (ad 6 q0)), (1, .ref (ad 11 n1)), (2, .ref (ad 19 t2)), (3, .int x1)]) rfl ?_
      exact kj4 _ h
    · rw [if_neg q14] at h
      refine J_aload_n (i := 1) (q := 2) (pc1 := 59) dX0_takeRequest_58 rfl rfl rfl ?_
      refine J_aload_n (i := 2) (q := 3) (pc1 := 60) dX0_takeRequest_59 rfl rfl rfl ?_
      refine J_getI (T := TX2) (pc1 := 63) (eC19 ht2) rfl rfl inX2 5 (by decide) rfl flX0_85 rfl dX0_takeRequest_60 rfl ?_
      refine J_putI (T := TX4) (pc1 := 66) (eC11 hn1) rfl rfl inX4 tyX4 tyX4_ok nmX4 8 (by decide) rfl (fun _ _ _ _ => gh11) flX0_155 rfl rfl rfl rfl dX0_takeRequest_63 rfl ?_
      obtain ⟨μ15, e16, h⟩ := gLet_s h
      rw [← e16]
      clear e16
      refine J_aload_n (i := 0) (q := 1) (pc1 := 67) dX0_takeRequest_66 rfl rfl rfl ?_
      refine J_aload_n (i := 1) (q := 2) (pc1 := 68) dX0_takeRequest_67 rfl rfl rfl ?_
      obtain ⟨μ18, hc17, h⟩ := gBp_s h
      refine J_callV (As := [.ref (ad 11 n1)]) (ad := ad) (f := 6) (i := q0) (st := []) (st1 := []) (pc1 := 71) (kX0_resetTimer l D tc sa ad nc hnc hI q0 hq0 n1 hn1 μ15 μ18 hc17) wcX0_resetTimer wlX0_55 (eC6 hq0) rfl rfl rfl ⟨rfl, rfl, Nat.le_of_ble_eq_true rfl, Nat.le_of_ble_eq_true rfl⟩ ⟨Nat.zero_le _, Nat.zero_le _⟩ (Nat.le_of_ble_eq_true rfl) dX0_takeRequest_68 rfl rfl ?_
      refine J_sub [1, 2, 3, 0] (lv1 := [(0, .ref (ad 6 q0)), (1, .ref (ad 11 n1)), (2, .ref (ad 19 t2)), (3, .int x1)]) rfl ?_
      exact kj4 _ h
  clear ej2
  obtain ⟨j19, ej19, h⟩ := gJon_s h
  have kj19 : ∀ (u20 : Unit), j19 u20 = some (r, μ') → JC p l e ({ frames := 2, cells := 0, slots := 0, locals := 44 } : Room) s m args below meth c cX0_takeRequest 5 RX0 D tc sa ad nc sz (some (.int r)) μ' μ 52 [(0, .ref (ad 6 q0)), (1, .ref (ad 11 n1)), (2, .ref (ad 19 t2))] [] := by
    intro u20 h
    rw [ej19] at h
    try dsimp only at h
    refine J_iconst (v := 0) (pc1 := 53) dX0_takeRequest_52 (by decide) rfl ?_
    exact kj2 _ h
  clear ej19
  refine J_icmp_ne (tgt := 52) (pc1 := 11) dX0_takeRequest_8 (by decide) (fun q21 => ?_) rfl (fun q21 => ?_)
  · rw [if_neg q21] at h
    exact kj19 ()  h
  · rw [if_pos q21] at h
    refine J_aload_n (i := 1) (q := 1) (pc1 := 12) dX0_takeRequest_11 rfl rfl rfl ?_
    refine J_getI (T := TX4) (pc1 := 15) (eC11 hn1) rfl rfl inX4 8 (by decide) rfl flX0_155 rfl dX0_takeRequest_12 rfl ?_
    refine J_iconst (v := (-1)) (pc1 := 16) dX0_takeRequest_15 (by decide) rfl ?_
    obtain ⟨j22, ej22, h⟩ := gJon_s h
    have kj22 : ∀ (u45 : Unit), j22 u45 = some (r, μ') → JC p l e ({ frames := 2, cells := 0, slots := 0, locals := 44 } : Room) s m args below meth c cX0_takeRequest 5 RX0 D tc sa ad nc sz (some (.int r)) μ' μ 30 [(0, .ref (ad 6 q0)), (1, .ref (ad 11 n1)), (2, .ref (ad 19 t2))] [] := by
      intro u45 h
      rw [ej22] at h
      try dsimp only at h
      refine J_aload_n (i := 1) (q := 1) (pc1 := 31) dX0_takeRequest_30 rfl rfl rfl ?_
      refine J_getR (T := TX4) (f' := 12) (i' := n1) (pc1 := 34) (eC11 hn1) rfl rfl inX4 1 (by decide) rfl rfl flX0_113 rfl dX0_takeRequest_31 rfl ?_
      refine J_aload_n (i := 2) (q := 2) (pc1 := 35) dX0_takeRequest_34 rfl rfl rfl ?_
      refine J_getI (T := TX2) (pc1 := 38) (eC19 ht2) rfl rfl inX2 10 (by decide) rfl flX0_167 rfl dX0_takeRequest_35 rfl ?_
      refine J_aload_n (i := 2) (q := 2) (pc1 := 39) dX0_takeRequest_38 rfl rfl rfl ?_
      refine J_getI (T := TX2) (pc1 := 42) (eC19 ht2) rfl rfl inX2 11 (by decide) rfl flX0_173 rfl dX0_takeRequest_39 rfl ?_
      obtain ⟨r24, hc23, h⟩ := gBp_s h
      refine J_callV (As := [.int (μ 19 t2 10), .int (μ 19 t2 11)]) (ad := ad) (f := 12) (i := n1) (st := []) (st1 := [.int r24]) (pc1 := 45) (kX1_isNotAheadOf l D tc sa ad nc hnc hI n1 hn1 (μ 19 t2 10) (μ 19 t2 11) μ r24 hc23) wcX1_isNotAheadOf wlX0_264 (eC12 hn1) rfl rfl rfl ⟨rfl, rfl, Nat.le_of_ble_eq_true rfl, Nat.le_of_ble_eq_true rfl⟩ ⟨Nat.zero_le _, Nat.zero_le _⟩ (Nat.le_of_ble_eq_true rfl) dX0_takeRequest_42 rfl rfl ?_
      obtain ⟨x25, e26, h⟩ := gLet_s h
      have k27 : JC p l e ({ frames := 2, cells := 0, slots := 0, locals := 44 } : Room) s m args below meth c cX0_takeRequest 5 RX0 D tc sa ad nc sz (some (.int r)) μ' μ 53 [(0, .ref (ad 6 q0)), (1, .ref (ad 11 n1)), (2, .ref (ad 19 t2))] [.int x25] := by
        refine J_istore_n (i := 3) (lv1 := [(3, .int x25), (0, .ref (ad 6 q0)), (1, .ref (ad 11 n1)), (2, .ref (ad 19 t2))]) (pc1 := 54) dX0_takeRequest_53 rfl (by decide) rfl rfl ?_
        refine J_iload_n (i := 3) (q := 0) (pc1 := 55) dX0_takeRequest_54 rfl rfl rfl ?_
        obtain ⟨j30, ej30, h⟩ := gJon_s h
        have kj30 : ∀ (μ29 : gM), j30 μ29 = some (r, μ') → JC p l e ({ frames := 2, cells := 0, slots := 0, locals := 44 } : Room) s m args below meth c cX0_takeRequest 5 RX0 D tc sa ad nc sz (some (.int r)) μ' μ29 71 [(0, .ref (ad 6 q0)), (1, .ref (ad 11 n1)), (2, .ref (ad 19 t2)), (3, .int x25)] [] := by
          intro μ29 h
          rw [ej30] at h
          try dsimp only at h
          refine J_aload_n (i := 0) (q := 0) (pc1 := 72) dX0_takeRequest_71 rfl rfl rfl ?_
          refine J_iconst (v := 1) (pc1 := 73) dX0_takeRequest_72 (by decide) rfl ?_
          refine J_aload_n (i := 1) (q := 1) (pc1 := 74) dX0_takeRequest_73 rfl rfl rfl ?_
          refine J_aload_n (i := 2) (q := 2) (pc1 := 75) dX0_takeRequest_74 rfl rfl rfl ?_
          refine J_getI (T := TX2) (pc1 := 78) (eC19 ht2) rfl rfl inX2 5 (by decide) rfl flX0_85 rfl dX0_takeRequest_75 rfl ?_
          obtain ⟨r32, μ33, hc31, h⟩ := gBd_s h
          obtain ⟨h34, h⟩ := gChk_s h
          refine J_callV (As := [.int 1, .ref (ad 11 n1), .int (μ29 19 t2 5)]) (ad := ad) (f := 6) (i := q0) (st := []) (st1 := [.ref (ad 19 r32)]) (pc1 := 81) (kX0_open l D tc sa ad nc hnc hI q0 hq0 1 n1 hn1 (μ29 19 t2 5) μ29 r32 μ33 hc31) wcX0_open wlX0_163 (eC6 hq0) rfl rfl rfl ⟨rfl, rfl, Nat.le_of_ble_eq_true rfl, Nat.le_of_ble_eq_true rfl⟩ ⟨Nat.zero_le _, Nat.zero_le _⟩ (Nat.le_of_ble_eq_true rfl) dX0_takeRequest_78 rfl rfl ?_
          refine J_astore (i := 4) (lv1 := [(4, .ref (ad 19 r32)), (0, .ref (ad 6 q0)), (1, .ref (ad 11 n1)), (2, .ref (ad 19 t2)), (3, .int x25)]) (pc1 := 83) dX0_takeRequest_81 (by decide) rfl rfl ?_
          refine J_aload (i := 4) (q := 0) (pc1 := 85) dX0_takeRequest_83 rfl rfl ?_
          refine J_iload_n (i := 3) (q := 4) (pc1 := 86) dX0_takeRequest_85 rfl rfl rfl ?_
          obtain ⟨h35, h⟩ := gChk_s h
          refine J_putI (T := TX2) (pc1 := 89) (eC19 h34) rfl rfl inX2 tyX2 tyX2_ok nmX2 12 (by decide) rfl (fun _ _ _ _ => gh19) flX0_267 rfl rfl (gZn h35) (gZf h35) dX0_takeRequest_86 rfl ?_
          obtain ⟨μ36, e37, h⟩ := gLet_s h
          rw [← e37]
          clear e37
          refine J_aload_n (i := 0) (q := 1) (pc1 := 90) dX0_takeRequest_89 rfl rfl rfl ?_
          refine J_getR (T := TX0) (f' := 9) (i' := q0) (pc1 := 93) (eC6 hq0) rfl rfl inX0 1 (by decide) rfl rfl flX0_23 rfl dX0_takeRequest_90 rfl ?_
          obtain ⟨μ39, hc38, h⟩ := gBp_s h
          refine J_callV (As := []) (ad := ad) (f := 9) (i := q0) (st := []) (st1 := []) (pc1 := 96) (kX3_post l D tc sa ad nc hnc hI q0 hq0 μ36 μ39 hc38) wcX3_post wlX0_176 (eC9 hq0) rfl rfl rfl ⟨rfl, rfl, Nat.le_of_ble_eq_true rfl, Nat.le_of_ble_eq_true rfl⟩ ⟨Nat.zero_le _, Nat.zero_le _⟩ (Nat.le_of_ble_eq_true rfl) dX0_takeRequest_93 rfl rfl ?_
          refine J_iconst (v := 0) (pc1 := 97) dX0_takeRequest_96 (by decide) rfl ?_
          cases h
          exact J_iret hr hlk dX0_takeRequest_97
        clear ej30
        refine J_if_eq (tgt := 71) (pc1 := 58) dX0_takeRequest_55 (by decide) (fun q40 => ?_) rfl (fun q40 => ?_)
        · rw [if_pos q40] at h
          refine J_sub [1, 2, 3, 0] (lv1 := [(0, .ref (ad 6 q0)), (1, .ref (ad 11 n1)), (2, .ref (ad 19 t2)), (3, .int x25)]) rfl ?_
          exact kj30 _ h
        · rw [if_neg q40] at h
          refine J_aload_n (i := 1) (q := 2) (pc1 := 59) dX0_takeRequest_58 rfl rfl rfl ?_
          refine J_aload_n (i := 2) (q := 3) (pc1 := 60) dX0_takeRequest_59 rfl rfl rfl ?_
          refine J_getI (T := TX2) (pc1 := 63) (eC19 ht2) rfl rfl inX2 5 (by decide) rfl flX0_85 rfl dX0_takeRequest_60 rfl ?_
          refine J_putI (T := TX4) (pc1 := 66) (eC11 hn1) rfl rfl inX4 tyX4 tyX4_ok nmX4 8 (by decide) rfl (fun _ _ _ _ => gh11) flX0_155 rfl rfl rfl rfl dX0_takeRequest_63 rfl ?_
          obtain ⟨μ41, e42, h⟩ := gLet_s h
          rw [← e42]
          clear e42
          refine J_aload_n (i := 0) (q := 1) (pc1 := 67) dX0_takeRequest_66 rfl rfl rfl ?_
          refine J_aload_n (i := 1) (q := 2) (pc1 := 68) dX0_takeRequest_67 rfl rfl rfl ?_
          obtain ⟨μ44, hc43, h⟩ := gBp_s h
          refine J_callV (As := [.ref (ad 11 n1)]) (ad := ad) (f := 6) (i := q0) (st := []) (st1 := []) (pc1 := 71) (kX0_resetTimer l D tc sa ad nc hnc hI q0 hq0 n1 hn1 μ41 μ44 hc43) wcX0_resetTimer wlX0_55 (eC6 hq0) rfl rfl rfl ⟨rfl, rfl, Nat.le_of_ble_eq_true rfl, Nat.le_of_ble_eq_true rfl⟩ ⟨Nat.zero_le _, Nat.zero_le _⟩ (Nat.le_of_ble_eq_true rfl) dX0_takeRequest_68 rfl rfl ?_
          refine J_sub [1, 2, 3, 0] (lv1 := [(0, .ref (ad 6 q0)), (1, .ref (ad 11 n1)), (2, .ref (ad 19 t2)), (3, .int x25)]) rfl ?_
          exact kj30 _ h
      refine J_if_eq (tgt := 52) (pc1 := 48) dX0_takeRequest_45 (by decide) (fun q28 => ?_) rfl (fun q28 => ?_)
      · rw [if_pos q28] at e26
        subst e26
        refine J_iconst (v := 0) (pc1 := 53) dX0_takeRequest_52 (by decide) rfl ?_
        exact k27
      · rw [if_neg q28] at e26
        subst e26
        refine J_iconst (v := 1) (pc1 := 49) dX0_takeRequest_48 (by decide) rfl ?_
        refine J_goto (tgt := 53) dX0_takeRequest_49 (by decide) ?_
        exact k27
    clear ej22
    refine J_icmp_eq (tgt := 30) (pc1 := 19) dX0_takeRequest_16 (by decide) (fun q46 => ?_) rfl (fun q46 => ?_)
    · rw [if_pos q46] at h
      exact kj22 ()  h
    · rw [if_neg q46] at h
      refine J_aload_n (i := 1) (q := 1) (pc1 := 20) dX0_takeRequest_19 rfl rfl rfl ?_
      refine J_getI (T := TX4) (pc1 := 23) (eC11 hn1) rfl rfl inX4 8 (by decide) rfl flX0_155 rfl dX0_takeRequest_20 rfl ?_
      refine J_aload_n (i := 2) (q := 2) (pc1 := 24) dX0_takeRequest_23 rfl rfl rfl ?_
      refine J_getI (T := TX2) (pc1 := 27) (eC19 ht2) rfl rfl inX2 5 (by decide) rfl flX0_85 rfl dX0_takeRequest_24 rfl ?_
      refine J_icmp_ne (tgt := 52) (pc1 := 30) dX0_takeRequest_27 (by decide) (fun q47 => ?_) rfl (fun q47 => ?_)
      · rw [if_neg q47] at h
        exact kj19 ()  h
      · rw [if_pos q47] at h
        exact kj22 ()  h
def mX0_takeReply (nc : Nat) (q0 : Nat) (n1 : Nat) (t2 : Nat) (μ : gM) : Option (Int32 × gM) :=
  if (μ 11 n1 6) = 1 then
    if (μ 19 t2 7) = (μ 11 n1 7) then
      if (μ 19 t2 12) = 0 then
        some (0, μ)
      else
        gLet (α := gM) (w3 μ 11 n1 11 ((μ 11 n1 11) ||| (1 <<< ((μ 19 t2 5) &&& 31)))) fun μ4 =>
        gBp (mX1_isQuorum nc n1 (μ4 11 n1 11) μ4) fun r7 =>
        if r7 = 0 then
          some (0, μ4)
        else
          some (1, μ4)
    else
      some (0, μ)
  else
    some (0, μ)
set_option maxHeartbeats 4000000 in
set_option maxRecDepth 100000 in
theorem kX0_takeReply (l : Launch) (D : va_G) (tc : Nat → ClassId) (sa : Nat → Nat) (ad : Nat → Nat → Nat) (nc : Nat) (hnc : 0 < nc ∧ nc ≤ 2) (hI : gI (gE_C nc) ad) (q0 : Nat) (hq0 : q0 < nc) (n1 : Nat) (hn1 : n1 < 5 * nc) (t2 : Nat) (ht2 : t2 < 42 * nc) (μ : gM) (r : Int32) (μ' : gM) (h : mX0_takeReply nc q0 n1 t2 μ = some (r, μ')) : gMet l yX0_takeReply cX0_takeReply 3 (some .int) ({ frames := 2, cells := 0, slots := 0, locals := 41 } : Room) D (gE_C nc) gkd_C tc ad (grh_C nc) sa [.ref (ad 6 q0), .ref (ad 11 n1), .ref (ad 19 t2)] μ (some (.int r)) μ' := by
  refine gMet_of hI ⟨by decide +kernel, Nat.le_of_ble_eq_true rfl⟩ (fun p e s m args below meth c sz hr hlk => ?_)
  unfold mX0_takeReply at h
  show JC p l e ({ frames := 2, cells := 0, slots := 0, locals := 41 } : Room) s m args below meth c cX0_takeReply 3 RX0 D tc sa ad nc sz (some (.int r)) μ' μ 0 [(0, .ref (ad 6 q0)), (1, .ref (ad 11 n1)), (2, .ref (ad 19 t2))] []
  refine J_aload_n (i := 1) (q := 1) (pc1 := 1) dX0_takeReply_0 rfl rfl rfl ?_
  refine J_getI (T := TX4) (pc1 := 4) (eC11 hn1) rfl rfl inX4 6 (by decide) rfl flX0_145 rfl dX0_takeReply_1 rfl ?_
  refine J_iconst (v := 1) (pc1 := 5) dX0_takeReply_4 (by decide) rfl ?_
  refine J_icmp_ne (tgt := 26) (pc1 := 8) dX0_takeReply_5 (by decide) (fun q1 => ?_) rfl (fun q1 => ?_)
  · rw [if_neg q1] at h
    refine J_iconst (v := 0) (pc1 := 27) dX0_takeReply_26 (by decide) rfl ?_
    cases h
    exact J_iret hr hlk dX0_takeReply_27
  · rw [if_pos q1] at h
    refine J_aload_n (i := 2) (q := 2) (pc1 := 9) dX0_takeReply_8 rfl rfl rfl ?_
    refine J_getI (T := TX2) (pc1 := 12) (eC19 ht2) rfl rfl inX2 7 (by decide) rfl flX0_232 rfl dX0_takeReply_9 rfl ?_
    refine J_aload_n (i := 1) (q := 1) (pc1 := 13) dX0_takeReply_12 rfl rfl rfl ?_
    refine J_getI (T := TX4) (pc1 := 16) (eC11 hn1) rfl rfl inX4 7 (by decide) rfl flX0_129 rfl dX0_takeReply_13 rfl ?_
    refine J_icmp_ne (tgt := 26) (pc1 := 19) dX0_takeReply_16 (by decide) (fun q2 => ?_) rfl (fun q2 => ?_)
    · rw [if_neg q2] at h
      refine J_iconst (v := 0) (pc1 := 27) dX0_takeReply_26 (by decide) rfl ?_
      cases h
      exact J_iret hr hlk dX0_takeReply_27
    · rw [if_pos q2] at h
      refine J_aload_n (i := 2) (q := 2) (pc1 := 20) dX0_takeReply_19 rfl rfl rfl ?_
      refine J_getI (T := TX2) (pc1 := 23) (eC19 ht2) rfl rfl inX2 12 (by decide) rfl flX0_267 rfl dX0_takeReply_20 rfl ?_
      refine J_if_ne (tgt := 28) (pc1 := 26) dX0_takeReply_23 (by decide) (fun q3 => ?_) rfl (fun q3 => ?_)
      · rw [if_neg q3] at h
        refine J_aload_n (i := 1) (q := 1) (pc1 := 29) dX0_takeReply_28 rfl rfl rfl ?_
        refine J_dup (pc1 := 30) dX0_takeReply_29 rfl rfl ?_
        refine J_getI (T := TX4) (pc1 := 33) (eC11 hn1) rfl rfl inX4 11 (by decide) rfl flX0_158 rfl dX0_takeReply_30 rfl ?_
        refine J_iconst (v := 1) (pc1 := 34) dX0_takeReply_33 (by decide) rfl ?_
        refine J_aload_n (i := 2) (q := 2) (pc1 := 35) dX0_takeReply_34 rfl rfl rfl ?_
        refine J_getI (T := TX2) (pc1 := 38) (eC19 ht2) rfl rfl inX2 5 (by decide) rfl flX0_85 rfl dX0_takeReply_35 rfl ?_
        refine J_ishl (pc1 := 39) dX0_takeReply_38 rfl ?_
        refine J_ior (pc1 := 40) dX0_takeReply_39 rfl ?_
        refine J_putI (T := TX4) (pc1 := 43) (eC11 hn1) rfl rfl inX4 tyX4 tyX4_ok nmX4 11 (by decide) rfl (fun _ _ _ _ => gh11) flX0_158 rfl rfl rfl rfl dX0_takeReply_40 rfl ?_
        obtain ⟨μ4, e5, h⟩ := gLet_s h
        rw [← e5]
        clear e5
        refine J_aload_n (i := 1) (q := 1) (pc1 := 44) dX0_takeReply_43 rfl rfl rfl ?_
        refine J_getR (T := TX4) (f' := 12) (i' := n1) (pc1 := 47) (eC11 hn1) rfl rfl inX4 1 (by decide) rfl rfl flX0_113 rfl dX0_takeReply_44 rfl ?_
        refine J_aload_n (i := 1) (q := 1) (pc1 := 48) dX0_takeReply_47 rfl rfl rfl ?_
        refine J_getI (T := TX4) (pc1 := 51) (eC11 hn1) rfl rfl inX4 11 (by decide) rfl flX0_158 rfl dX0_takeReply_48 rfl ?_
        obtain ⟨r7, hc6, h⟩ := gBp_s h
        refine J_callV (As := [.int (μ4 11 n1 11)]) (ad := ad) (f := 12) (i := n1) (st := []) (st1 := [.int r7]) (pc1 := 54) (kX1_isQuorum l D tc sa ad nc hnc hI n1 hn1 (μ4 11 n1 11) μ4 r7 hc6) wcX1_isQuorum wlX0_179 (eC12 hn1) rfl rfl rfl ⟨rfl, rfl, Nat.le_of_ble_eq_true rfl, Nat.le_of_ble_eq_true rfl⟩ ⟨Nat.zero_le _, Nat.zero_le _⟩ (Nat.le_of_ble_eq_true rfl) dX0_takeReply_51 rfl rfl ?_
        refine J_if_eq (tgt := 61) (pc1 := 57) dX0_takeReply_54 (by decide) (fun q8 => ?_) rfl (fun q8 => ?_)
        · rw [if_pos q8] at h
          refine J_iconst (v := 0) (pc1 := 62) dX0_takeReply_61 (by decide) rfl ?_
          cases h
          exact J_iret hr hlk dX0_takeReply_62
        · rw [if_neg q8] at h
          refine J_iconst (v := 1) (pc1 := 58) dX0_takeReply_57 (by decide) rfl ?_
          refine J_goto (tgt := 62) dX0_takeReply_58 (by decide) ?_
          cases h
          exact J_iret hr hlk dX0_takeReply_62
      · rw [if_pos q3] at h
        refine J_iconst (v := 0) (pc1 := 27) dX0_takeReply_26 (by decide) rfl ?_
        cases h
        exact J_iret hr hlk dX0_takeReply_27
def mX0_sendTo (nc : Nat) (q0 : Nat) (n1 : Nat) (a2 : Int32) (μ : gM) : Option gM :=
  gChk (inb a2 5) <|
  gLet (α := Int32) (μ 13 n1 (a2.toNatClampNeg)) fun x2 =>
  gJon (fun (μ6 : gM) =>
      gBp (mX3_post nc q0 μ6) fun μ9 =>
      some μ9) fun j7 =>
  if (μ 12 n1 4) < x2 then
    gBd (mX0_open nc q0 2 n1 a2 μ) fun r12 μ13 =>
    gChk (r12 < 42 * nc) <|
    gLet (α := gM) (w3 μ13 19 r12 10 (x2 - 1)) fun μ15 =>
    gBp (mX1_termAt nc n1 (x2 - 1) μ15) fun r18 =>
    gLet (α := gM) (w3 μ15 19 r12 11 r18) fun μ19 =>
    gLet (α := gM) (w3 μ19 19 r12 13 (μ19 11 n1 9)) fun μ21 =>
    gBp (mX1_copyEntries nc n1 x2 r12 μ21) fun μ24 =>
    j7 μ24
  else
    gBd (mX0_open nc q0 4 n1 a2 μ) fun r26 μ27 =>
    gChk (r26 < 42 * nc) <|
    gBp (mX1_copySnapshot nc n1 r26 μ27) fun μ30 =>
    j7 μ30
set_option maxHeartbeats 4000000 in
set_option maxRecDepth 100000 in
theorem kX0_sendTo (l : Launch) (D : va_G) (tc : Nat → ClassId) (sa : Nat → Nat) (ad : Nat → Nat → Nat) (nc : Nat) (hnc : 0 < nc ∧ nc ≤ 2) (hI : gI (gE_C nc) ad) (q0 : Nat) (hq0 : q0 < nc) (n1 : Nat) (hn1 : n1 < 5 * nc) (a2 : Int32) (μ : gM) (μ' : gM) (h : mX0_sendTo nc q0 n1 a2 μ = some μ') : gMet l yX0_sendTo cX0_sendTo 6 (none) ({ frames := 2, cells := 0, slots := 0, locals := 45 } : Room) D (gE_C nc) gkd_C tc ad (grh_C nc) sa [.ref (ad 6 q0), .ref (ad 11 n1), .int a2] μ (none) μ' := by
  refine gMet_of hI ⟨by decide +kernel, Nat.le_of_ble_eq_true rfl⟩ (fun p e s m args below meth c sz hr hlk => ?_)
  unfold mX0_sendTo at h
  show JC p l e ({ frames := 2, cells := 0, slots := 0, locals := 45 } : Room) s m args below meth c cX0_sendTo 6 RX0 D tc sa ad nc sz (none) μ' μ 0 [(0, .ref (ad 6 q0)), (1, .ref (ad 11 n1)), (2, .int a2)] []
  refine J_aload_n (i := 1) (q := 1) (pc1 := 1) dX0_sendTo_0 rfl rfl rfl ?_
  refine J_getR (T := TX4) (f' := 12) (i' := n1) (pc1 := 4) (eC11 hn1) rfl rfl inX4 1 (by decide) rfl rfl flX0_113 rfl dX0_sendTo_1 rfl ?_
  refine J_astore_n (i := 3) (lv1 := [(3, .ref (ad 12 n1)), (0, .ref (ad 6 q0)), (1, .ref (ad 11 n1)), (2, .int a2)]) (pc1 := 5) dX0_sendTo_4 rfl (by decide) rfl rfl ?_
  refine J_aload_n (i := 1) (q := 2) (pc1 := 6) dX0_sendTo_5 rfl rfl rfl ?_
  refine J_getR (T := TX4) (f' := 13) (i' := n1) (pc1 := 9) (eC11 hn1) rfl rfl inX4 2 (by decide) rfl rfl flX0_213 rfl dX0_sendTo_6 rfl ?_
  refine J_iload_n (i := 2) (q := 3) (pc1 := 10) dX0_sendTo_9 rfl rfl rfl ?_
  obtain ⟨h1, h⟩ := gChk_s h
  refine J_iald (ix := (a2.toNatClampNeg)) (pc1 := 11) rfl (eC13 hn1) rfl h1 dX0_sendTo_10 rfl ?_
  obtain ⟨x2, e4, h⟩ := gLet_s h
  refine J_top (fun y3 e5 => ?_)
  have e5x : x2 = y3 := (e5.trans e4.symm).symm
  subst e5x
  refine J_istore (i := 4) (lv1 := [(4, .int x2), (3, .ref (ad 12 n1)), (0, .ref (ad 6 q0)), (1, .ref (ad 11 n1)), (2, .int a2)]) (pc1 := 13) dX0_sendTo_11 (by decide) rfl rfl ?_
  refine J_iload (i := 4) (q := 0) (pc1 := 15) dX0_sendTo_13 rfl rfl ?_
  refine J_aload_n (i := 3) (q := 1) (pc1 := 16) dX0_sendTo_15 rfl rfl rfl ?_
  refine J_getI (T := TX1) (pc1 := 19) (eC12 hn1) rfl rfl inX1 4 (by decide) rfl flX0_117 rfl dX0_sendTo_16 rfl ?_
  obtain ⟨j7, ej7, h⟩ := gJon_s h
  have kj7 : ∀ (μ6 : gM), j7 μ6 = some μ' → JC p l e ({ frames := 2, cells := 0, slots := 0, locals := 45 } : Room) s m args below meth c cX0_sendTo 6 RX0 D tc sa ad nc sz (none) μ' μ6 84 [(0, .ref (ad 6 q0))] [] := by
    intro μ6 h
    rw [ej7] at h
    try dsimp only at h
    refine J_aload_n (i := 0) (q := 0) (pc1 := 85) dX0_sendTo_84 rfl rfl rfl ?_
    refine J_getR (T := TX0) (f' := 9) (i' := q0) (pc1 := 88) (eC6 hq0) rfl rfl inX0 1 (by decide) rfl rfl flX0_23 rfl dX0_sendTo_85 rfl ?_
    obtain ⟨μ9, hc8, h⟩ := gBp_s h
    refine J_callV (As := []) (ad := ad) (f := 9) (i := q0) (st := []) (st1 := []) (pc1 := 91) (kX3_post l D tc sa ad nc hnc hI q0 hq0 μ6 μ9 hc8) wcX3_post wlX0_176 (eC9 hq0) rfl rfl rfl ⟨rfl, rfl, Nat.le_of_ble_eq_true rfl, Nat.le_of_ble_eq_true rfl⟩ ⟨Nat.zero_le _, Nat.zero_le _⟩ (Nat.le_of_ble_eq_true rfl) dX0_sendTo_88 rfl rfl ?_
    cases h
    exact J_vret hr hlk dX0_sendTo_91
  clear ej7
  refine J_icmp_gt (tgt := 36) (pc1 := 22) dX0_sendTo_19 (by decide) (fun q10 => ?_) rfl (fun q10 => ?_)
  · rw [if_pos q10] at h
    refine J_aload_n (i := 0) (q := 2) (pc1 := 37) dX0_sendTo_36 rfl rfl rfl ?_
    refine J_iconst (v := 2) (pc1 := 38) dX0_sendTo_37 (by decide) rfl ?_
    refine J_aload_n (i := 1) (q := 3) (pc1 := 39) dX0_sendTo_38 rfl rfl rfl ?_
    refine J_iload_n (i := 2) (q := 4) (pc1 := 40) dX0_sendTo_39 rfl rfl rfl ?_
    obtain ⟨r12, μ13, hc11, h⟩ := gBd_s h
    obtain ⟨h14, h⟩ := gChk_s h
    refine J_callV (As := [.int 2, .ref (ad 11 n1), .int a2]) (ad := ad) (f := 6) (i := q0) (st := []) (st1 := [.ref (ad 19 r12)]) (pc1 := 43) (kX0_open l D tc sa ad nc hnc hI q0 hq0 2 n1 hn1 a2 μ r12 μ13 hc11) wcX0_open wlX0_163 (eC6 hq0) rfl rfl rfl ⟨rfl, rfl, Nat.le_of_ble_eq_true rfl, Nat.le_of_ble_eq_true rfl⟩ ⟨Nat.zero_le _, Nat.zero_le _⟩ (Nat.le_of_ble_eq_true rfl) dX0_sendTo_40 rfl rfl ?_
    refine J_astore (i := 5) (lv1 := [(5, .ref (ad 19 r12)), (4, .int x2), (3, .ref (ad 12 n1)), (0, .ref (ad 6 q0)), (1, .ref (ad 11 n1)), (2, .int a2)]) (pc1 := 45) dX0_sendTo_43 (by decide) rfl rfl ?_
    refine J_aload (i := 5) (q := 0) (pc1 := 47) dX0_sendTo_45 rfl rfl ?_
    refine J_iload (i := 4) (q := 1) (pc1 := 49) dX0_sendTo_47 rfl rfl ?_
    refine J_iconst (v := 1) (pc1 := 50) dX0_sendTo_49 (by decide) rfl ?_
    refine J_isub (pc1 := 51) dX0_sendTo_50 rfl ?_
    refine J_putI (T := TX2) (pc1 := 54) (eC19 h14) rfl rfl inX2 tyX2 tyX2_ok nmX2 10 (by decide) rfl (fun _ _ _ _ => gh19) flX0_167 rfl rfl rfl rfl dX0_sendTo_51 rfl ?_
    obtain ⟨μ15, e16, h⟩ := gLet_s h
    rw [← e16]
    clear e16
    refine J_aload (i := 5) (q := 0) (pc1 := 56) dX0_sendTo_54 rfl rfl ?_
    refine J_aload_n (i := 3) (q := 2) (pc1 := 57) dX0_sendTo_56 rfl rfl rfl ?_
    refine J_iload (i := 4) (q := 1) (pc1 := 59) dX0_sendTo_57 rfl rfl ?_
    refine J_iconst (v := 1) (pc1 := 60) dX0_sendTo_59 (by decide) rfl ?_
    refine J_isub (pc1 := 61) dX0_sendTo_60 rfl ?_
    obtain ⟨r18, hc17, h⟩ := gBp_s h
    refine J_callV (As := [.int (x2 - 1)]) (ad := ad) (f := 12) (i := n1) (st := [.ref (ad 19 r12)]) (st1 := [.int r18, .ref (ad 19 r12)]) (pc1 := 64) (kX1_termAt l D tc sa ad nc hnc hI n1 hn1 (x2 - 1) μ15 r18 hc17) wcX1_termAt wlX0_191 (eC12 hn1) rfl rfl rfl ⟨rfl, rfl, Nat.le_of_ble_eq_true rfl, Nat.le_of_ble_eq_true rfl⟩ ⟨Nat.zero_le _, Nat.zero_le _⟩ (Nat.le_of_ble_eq_true rfl) dX0_sendTo_61 rfl rfl ?_
    refine J_putI (T := TX2) (pc1 := 67) (eC19 h14) rfl rfl inX2 tyX2 tyX2_ok nmX2 11 (by decide) rfl (fun _ _ _ _ => gh19) flX0_173 rfl rfl rfl rfl dX0_sendTo_64 rfl ?_
    obtain ⟨μ19, e20, h⟩ := gLet_s h
    rw [← e20]
    clear e20
    refine J_aload (i := 5) (q := 0) (pc1 := 69) dX0_sendTo_67 rfl rfl ?_
    refine J_aload_n (i := 1) (q := 4) (pc1 := 70) dX0_sendTo_69 rfl rfl rfl ?_
    refine J_getI (T := TX4) (pc1 := 73) (eC11 hn1) rfl rfl inX4 9 (by decide) rfl flX0_122 rfl dX0_sendTo_70 rfl ?_
    refine J_putI (T := TX2) (pc1 := 76) (eC19 h14) rfl rfl inX2 tyX2 tyX2_ok nmX2 13 (by decide) rfl (fun _ _ _ _ => gh19) flX0_220 rfl rfl rfl rfl dX0_sendTo_73 rfl ?_
    obtain ⟨μ21, e22, h⟩ := gLet_s h
    rw [← e22]
    clear e22
    refine J_aload_n (i := 3) (q := 2) (pc1 := 77) dX0_sendTo_76 rfl rfl rfl ?_
    refine J_iload (i := 4) (q := 1) (pc1 := 79) dX0_sendTo_77 rfl rfl ?_
    refine J_aload (i := 5) (q := 0) (pc1 := 81) dX0_sendTo_79 rfl rfl ?_
    obtain ⟨μ24, hc23, h⟩ := gBp_s h
    refine J_callV (As := [.int x2, .ref (ad 19 r12)]) (ad := ad) (f := 12) (i := n1) (st := []) (st1 := []) (pc1 := 84) (kX1_copyEntries l D tc sa ad nc hnc hI n1 hn1 x2 r12 h14 μ21 μ24 hc23) wcX1_copyEntries wlX0_221 (eC12 hn1) rfl rfl rfl ⟨rfl, rfl, Nat.le_of_ble_eq_true rfl, Nat.le_of_ble_eq_true rfl⟩ ⟨Nat.zero_le _, Nat.zero_le _⟩ (Nat.le_of_ble_eq_true rfl) dX0_sendTo_81 rfl rfl ?_
    refine J_sub [3] (lv1 := [(0, .ref (ad 6 q0))]) rfl ?_
    exact kj7 _ h
  · rw [if_neg q10] at h
    refine J_aload_n (i := 3) (q := 1) (pc1 := 23) dX0_sendTo_22 rfl rfl rfl ?_
    refine J_aload_n (i := 0) (q := 2) (pc1 := 24) dX0_sendTo_23 rfl rfl rfl ?_
    refine J_iconst (v := 4) (pc1 := 25) dX0_sendTo_24 (by decide) rfl ?_
    refine J_aload_n (i := 1) (q := 3) (pc1 := 26) dX0_sendTo_25 rfl rfl rfl ?_
    refine J_iload_n (i := 2) (q := 4) (pc1 := 27) dX0_sendTo_26 rfl rfl rfl ?_
    obtain ⟨r26, μ27, hc25, h⟩ := gBd_s h
    obtain ⟨h28, h⟩ := gChk_s h
    refine J_callV (As := [.int 4, .ref (ad 11 n1), .int a2]) (ad := ad) (f := 6) (i := q0) (st := [.ref (ad 12 n1)]) (st1 := [.ref (ad 19 r26), .ref (ad 12 n1)]) (pc1 := 30) (kX0_open l D tc sa ad nc hnc hI q0 hq0 4 n1 hn1 a2 μ r26 μ27 hc25) wcX0_open wlX0_163 (eC6 hq0) rfl rfl rfl ⟨rfl, rfl, Nat.le_of_ble_eq_true rfl, Nat.le_of_ble_eq_true rfl⟩ ⟨Nat.zero_le _, Nat.zero_le _⟩ (Nat.le_of_ble_eq_true rfl) dX0_sendTo_27 rfl rfl ?_
    obtain ⟨μ30, hc29, h⟩ := gBp_s h
    refine J_callV (As := [.ref (ad 19 r26)]) (ad := ad) (f := 12) (i := n1) (st := []) (st1 := []) (pc1 := 33) (kX1_copySnapshot l D tc sa ad nc hnc hI n1 hn1 r26 h28 μ27 μ30 hc29) wcX1_copySnapshot wlX0_216 (eC12 hn1) rfl rfl rfl ⟨rfl, rfl, Nat.le_of_ble_eq_true rfl, Nat.le_of_ble_eq_true rfl⟩ ⟨Nat.zero_le _, Nat.zero_le _⟩ (Nat.le_of_ble_eq_true rfl) dX0_sendTo_30 rfl rfl ?_
    refine J_goto (tgt := 84) dX0_sendTo_33 (by decide) ?_
    refine J_sub [2] (lv1 := [(0, .ref (ad 6 q0))]) rfl ?_
    exact kj7 _ h
def mX0_takeAnswer (nc : Nat) (q0 : Nat) (n1 : Nat) (t2 : Nat) (μ : gM) : Option (Int32 × gM) :=
  gLet (α := Int32) (μ 19 t2 5) fun x1 =>
  if (μ 11 n1 6) = 2 then
    if (μ 19 t2 7) = (μ 11 n1 7) then
      if (μ 19 t2 12) = 0 then
        gChk (inb x1 5) <|
        gLet (α := Int32) (if ((μ 19 t2 10) + 1) < ((μ 13 n1 (x1.toNatClampNeg)) - 1) then ((μ 19 t2 10) + 1) else ((μ 13 n1 (x1.toNatClampNeg)) - 1)) fun x29 =>
        gLet (α := Int32) (if 1 < x29 then x29 else 1) fun x33 =>
        gChk (inb x1 5) <|
        gLet (α := gM) (w3 μ 13 n1 (x1.toNatClampNeg) x33) fun μ38 =>
        gBp (mX0_sendTo nc q0 n1 x1 μ38) fun μ41 =>
        some (0, μ41)
      else
        gChk (inb x1 5) <|
        gLet (α := Int32) (if (μ 14 n1 (x1.toNatClampNeg)) < (μ 19 t2 10) then (μ 19 t2 10) else (μ 14 n1 (x1.toNatClampNeg))) fun x9 =>
        gChk (inb x1 5) <|
        gLet (α := gM) (w3 μ 14 n1 (x1.toNatClampNeg) x9) fun μ14 =>
        gChk (inb x1 5) <|
        gChk (inb x1 5) <|
        gLet (α := gM) (w3 μ14 13 n1 (x1.toNatClampNeg) ((μ14 14 n1 (x1.toNatClampNeg)) + 1)) fun μ18 =>
        gChk (inb x1 5) <|
        gLet (α := Int32) (if (μ18 15 n1 (x1.toNatClampNeg)) < (μ18 19 t2 9) then (μ18 19 t2 9) else (μ18 15 n1 (x1.toNatClampNeg))) fun x21 =>
        gChk (inb x1 5) <|
        gLet (α := gM) (w3 μ18 15 n1 (x1.toNatClampNeg) x21) fun μ26 =>
        some (2, μ26)
    else
      some (0, μ)
  else
    some (0, μ)
set_option maxHeartbeats 4000000 in
set_option maxRecDepth 100000 in
theorem kX0_takeAnswer (l : Launch) (D : va_G) (tc : Nat → ClassId) (sa : Nat → Nat) (ad : Nat → Nat → Nat) (nc : Nat) (hnc : 0 < nc ∧ nc ≤ 2) (hI : gI (gE_C nc) ad) (q0 : Nat) (hq0 : q0 < nc) (n1 : Nat) (hn1 : n1 < 5 * nc) (t2 : Nat) (ht2 : t2 < 42 * nc) (μ : gM) (r : Int32) (μ' : gM) (h : mX0_takeAnswer nc q0 n1 t2 μ = some (r, μ')) : gMet l yX0_takeAnswer cX0_takeAnswer 4 (some .int) ({ frames := 3, cells := 0, slots := 0, locals := 70 } : Room) D (gE_C nc) gkd_C tc ad (grh_C nc) sa [.ref (ad 6 q0), .ref (ad 11 n1), .ref (ad 19 t2)] μ (some (.int r)) μ' := by
  refine gMet_of hI ⟨by decide +kernel, Nat.le_of_ble_eq_true rfl⟩ (fun p e s m args below meth c sz hr hlk => ?_)
  unfold mX0_takeAnswer at h
  show JC p l e ({ frames := 3, cells := 0, slots := 0, locals := 70 } : Room) s m args below meth c cX0_takeAnswer 4 RX0 D tc sa ad nc sz (some (.int r)) μ' μ 0 [(0, .ref (ad 6 q0)), (1, .ref (ad 11 n1)), (2, .ref (ad 19 t2))] []
  refine J_aload_n (i := 2) (q := 2) (pc1 := 1) dX0_takeAnswer_0 rfl rfl rfl ?_
  refine J_getI (T := TX2) (pc1 := 4) (eC19 ht2) rfl rfl inX2 5 (by decide) rfl flX0_85 rfl dX0_takeAnswer_1 rfl ?_
  obtain ⟨x1, e3, h⟩ := gLet_s h
  refine J_top (fun y2 e4 => ?_)
  have e4x : x1 = y2 := (e4.trans e3.symm).symm
  subst e4x
  refine J_istore_n (i := 3) (lv1 := [(3, .int x1), (0, .ref (ad 6 q0)), (1, .ref (ad 11 n1)), (2, .ref (ad 19 t2))]) (pc1 := 5) dX0_takeAnswer_4 rfl (by decide) rfl rfl ?_
  refine J_aload_n (i := 1) (q := 2) (pc1 := 6) dX0_takeAnswer_5 rfl rfl rfl ?_
  refine J_getI (T := TX4) (pc1 := 9) (eC11 hn1) rfl rfl inX4 6 (by decide) rfl flX0_145 rfl dX0_takeAnswer_6 rfl ?_
  refine J_iconst (v := 2) (pc1 := 10) dX0_takeAnswer_9 (by decide) rfl ?_
  refine J_icmp_ne (tgt := 24) (pc1 := 13) dX0_takeAnswer_10 (by decide) (fun q5 => ?_) rfl (fun q5 => ?_)
  · rw [if_neg q5] at h
    refine J_iconst (v := 0) (pc1 := 25) dX0_takeAnswer_24 (by decide) rfl ?_
    cases h
    exact J_iret hr hlk dX0_takeAnswer_25
  · rw [if_pos q5] at h
    refine J_aload_n (i := 2) (q := 3) (pc1 := 14) dX0_takeAnswer_13 rfl rfl rfl ?_
    refine J_getI (T := TX2) (pc1 := 17) (eC19 ht2) rfl rfl inX2 7 (by decide) rfl flX0_232 rfl dX0_takeAnswer_14 rfl ?_
    refine J_aload_n (i := 1) (q := 2) (pc1 := 18) dX0_takeAnswer_17 rfl rfl rfl ?_
    refine J_getI (T := TX4) (pc1 := 21) (eC11 hn1) rfl rfl inX4 7 (by decide) rfl flX0_129 rfl dX0_takeAnswer_18 rfl ?_
    refine J_icmp_eq (tgt := 26) (pc1 := 24) dX0_takeAnswer_21 (by decide) (fun q6 => ?_) rfl (fun q6 => ?_)
    · rw [if_pos q6] at h
      refine J_aload_n (i := 2) (q := 3) (pc1 := 27) dX0_takeAnswer_26 rfl rfl rfl ?_
      refine J_getI (T := TX2) (pc1 := 30) (eC19 ht2) rfl rfl inX2 12 (by decide) rfl flX0_267 rfl dX0_takeAnswer_27 rfl ?_
      refine J_if_ne (tgt := 68) (pc1 := 33) dX0_takeAnswer_30 (by decide) (fun q7 => ?_) rfl (fun q7 => ?_)
      · rw [if_neg q7] at h
        refine J_aload_n (i := 1) (q := 2) (pc1 := 69) dX0_takeAnswer_68 rfl rfl rfl ?_
        refine J_getR (T := TX4) (f' := 14) (i' := n1) (pc1 := 72) (eC11 hn1) rfl rfl inX4 3 (by decide) rfl rfl flX0_279 rfl dX0_takeAnswer_69 rfl ?_
        refine J_iload_n (i := 3) (q := 0) (pc1 := 73) dX0_takeAnswer_72 rfl rfl rfl ?_
        refine J_aload_n (i := 1) (q := 2) (pc1 := 74) dX0_takeAnswer_73 rfl rfl rfl ?_
        refine J_getR (T := TX4) (f' := 14) (i' := n1) (pc1 := 77) (eC11 hn1) rfl rfl inX4 3 (by decide) rfl rfl flX0_279 rfl dX0_takeAnswer_74 rfl ?_
        refine J_iload_n (i := 3) (q := 0) (pc1 := 78) dX0_takeAnswer_77 rfl rfl rfl ?_
        obtain ⟨h8, h⟩ := gChk_s h
        refine J_iald (ix := (x1.toNatClampNeg)) (pc1 := 79) rfl (eC14 hn1) rfl h8 dX0_takeAnswer_78 rfl ?_
        refine J_aload_n (i := 2) (q := 3) (pc1 := 80) dX0_takeAnswer_79 rfl rfl rfl ?_
        refine J_getI (T := TX2) (pc1 := 83) (eC19 ht2) rfl rfl inX2 10 (by decide) rfl flX0_167 rfl dX0_takeAnswer_80 rfl ?_
        refine J_mmax (pc1 := 86) wlX0_276 stMmax iniMath cdMmax ⟨Nat.le_of_ble_eq_true rfl, Nat.le_of_ble_eq_true rfl, Nat.zero_le _, Nat.zero_le _⟩ dX0_takeAnswer_83 rfl ?_
        obtain ⟨x9, e11, h⟩ := gLet_s h
        refine J_top (fun y10 e12 => ?_)
        have e12x : x9 = y10 := (e12.trans e11.symm).symm
        subst e12x
        obtain ⟨h13, h⟩ := gChk_s h
        refine J_iast (ix := (x1.toNatClampNeg)) (pc1 := 87) rfl (eC14 hn1) rfl h13 dX0_takeAnswer_86 rfl ?_
        obtain ⟨μ14, e15, h⟩ := gLet_s h
        rw [← e15]
        clear e15
        refine J_aload_n (i := 1) (q := 2) (pc1 := 88) dX0_takeAnswer_87 rfl rfl rfl ?_
        refine J_getR (T := TX4) (f' := 13) (i' := n1) (pc1 := 91) (eC11 hn1) rfl rfl inX4 2 (by decide) rfl rfl flX0_213 rfl dX0_takeAnswer_88 rfl ?_
        refine J_iload_n (i := 3) (q := 0) (pc1 := 92) dX0_takeAnswer_91 rfl rfl rfl ?_
        refine J_aload_n (i := 1) (q := 2) (pc1 := 93) dX0_takeAnswer_92 rfl rfl rfl ?_
        refine J_getR (T := TX4) (f' := 14) (i' := n1) (pc1 := 96) (eC11 hn1) rfl rfl inX4 3 (by decide) rfl rfl flX0_279 rfl dX0_takeAnswer_93 rfl ?_
        refine J_iload_n (i := 3) (q := 0) (pc1 := 97) dX0_takeAnswer_96 rfl rfl rfl ?_
        obtain ⟨h16, h⟩ := gChk_s h
        refine J_iald (ix := (x1.toNatClampNeg)) (pc1 := 98) rfl (eC14 hn1) rfl h16 dX0_takeAnswer_97 rfl ?_
        refine J_iconst (v := 1) (pc1 := 99) dX0_takeAnswer_98 (by decide) rfl ?_
        refine J_iadd (pc1 := 100) dX0_takeAnswer_99 rfl ?_
        obtain ⟨h17, h⟩ := gChk_s h
        refine J_iast (ix := (x1.toNatClampNeg)) (pc1 := 101) rfl (eC13 hn1) rfl h17 dX0_takeAnswer_100 rfl ?_
        obtain ⟨μ18, e19, h⟩ := gLet_s h
        rw [← e19]
        clear e19
        refine J_aload_n (i := 1) (q := 2) (pc1 := 102) dX0_takeAnswer_101 rfl rfl rfl ?_
        refine J_getR (T := TX4) (f' := 15) (i' := n1) (pc1 := 105) (eC11 hn1) rfl rfl inX4 4 (by decide) rfl rfl flX0_282 rfl dX0_takeAnswer_102 rfl ?_
        refine J_iload_n (i := 3) (q := 0) (pc1 := 106) dX0_takeAnswer_105 rfl rfl rfl ?_
        refine J_aload_n (i := 1) (q := 2) (pc1 := 107) dX0_takeAnswer_106 rfl rfl rfl ?_
        refine J_getR (T := TX4) (f' := 15) (i' := n1) (pc1 := 110) (eC11 hn1) rfl rfl inX4 4 (by decide) rfl rfl flX0_282 rfl dX0_takeAnswer_107 rfl ?_
        refine J_iload_n (i := 3) (q := 0) (pc1 := 111) dX0_takeAnswer_110 rfl rfl rfl ?_
        obtain ⟨h20, h⟩ := gChk_s h
        refine J_iald (ix := (x1.toNatClampNeg)) (pc1 := 112) rfl (eC15 hn1) rfl h20 dX0_takeAnswer_111 rfl ?_
        refine J_aload_n (i := 2) (q := 3) (pc1 := 113) dX0_takeAnswer_112 rfl rfl rfl ?_
        refine J_getI (T := TX2) (pc1 := 116) (eC19 ht2) rfl rfl inX2 9 (by decide) rfl flX0_239 rfl dX0_takeAnswer_113 rfl ?_
        refine J_mmax (pc1 := 119) wlX0_276 stMmax iniMath cdMmax ⟨Nat.le_of_ble_eq_true rfl, Nat.le_of_ble_eq_true rfl, Nat.zero_le _, Nat.zero_le _⟩ dX0_takeAnswer_116 rfl ?_
        obtain ⟨x21, e23, h⟩ := gLet_s h
        refine J_top (fun y22 e24 => ?_)
        have e24x : x21 = y22 := (e24.trans e23.symm).symm
        subst e24x
        obtain ⟨h25, h⟩ := gChk_s h
        refine J_iast (ix := (x1.toNatClampNeg)) (pc1 := 120) rfl (eC15 hn1) rfl h25 dX0_takeAnswer_119 rfl ?_
        obtain ⟨μ26, e27, h⟩ := gLet_s h
        rw [← e27]
        clear e27
        refine J_iconst (v := 2) (pc1 := 121) dX0_takeAnswer_120 (by decide) rfl ?_
        cases h
        exact J_iret hr hlk dX0_takeAnswer_121
      · rw [if_pos q7] at h
        refine J_aload_n (i := 1) (q := 2) (pc1 := 34) dX0_takeAnswer_33 rfl rfl rfl ?_
        refine J_getR (T := TX4) (f' := 13) (i' := n1) (pc1 := 37) (eC11 hn1) rfl rfl inX4 2 (by decide) rfl rfl flX0_213 rfl dX0_takeAnswer_34 rfl ?_
        refine J_iload_n (i := 3) (q := 0) (pc1 := 38) dX0_takeAnswer_37 rfl rfl rfl ?_
        refine J_iconst (v := 1) (pc1 := 39) dX0_takeAnswer_38 (by decide) rfl ?_
        refine J_aload_n (i := 1) (q := 2) (pc1 := 40) dX0_takeAnswer_39 rfl rfl rfl ?_
        refine J_getR (T := TX4) (f' := 13) (i' := n1) (pc1 := 43) (eC11 hn1) rfl rfl inX4 2 (by decide) rfl rfl flX0_213 rfl dX0_takeAnswer_40 rfl ?_
        refine J_iload_n (i := 3) (q := 0) (pc1 := 44) dX0_takeAnswer_43 rfl rfl rfl ?_
        obtain ⟨h28, h⟩ := gChk_s h
        refine J_iald (ix := (x1.toNatClampNeg)) (pc1 := 45) rfl (eC13 hn1) rfl h28 dX0_takeAnswer_44 rfl ?_
        refine J_iconst (v := 1) (pc1 := 46) dX0_takeAnswer_45 (by decide) rfl ?_
        refine J_isub (pc1 := 47) dX0_takeAnswer_46 rfl ?_
        refine J_aload_n (i := 2) (q := 3) (pc1 := 48) dX0_takeAnswer_47 rfl rfl rfl ?_
        refine J_getI (T := TX2) (pc1 := 51) (eC19 ht2) rfl rfl inX2 10 (by decide) rfl flX0_167 rfl dX0_takeAnswer_48 rfl ?_
        refine J_iconst (v := 1) (pc1 := 52) dX0_takeAnswer_51 (by decide) rfl ?_
        refine J_iadd (pc1 := 53) dX0_takeAnswer_52 rfl ?_
        refine J_mmin (pc1 := 56) wlX0_270 stMmin iniMath cdMmin ⟨Nat.le_of_ble_eq_true rfl, Nat.le_of_ble_eq_true rfl, Nat.zero_le _, Nat.zero_le _⟩ dX0_takeAnswer_53 rfl ?_
        obtain ⟨x29, e31, h⟩ := gLet_s h
        refine J_top (fun y30 e32 => ?_)
        have e32x : x29 = y30 := (e32.trans e31.symm).symm
        subst e32x
        refine J_mmax (pc1 := 59) wlX0_276 stMmax iniMath cdMmax ⟨Nat.le_of_ble_eq_true rfl, Nat.le_of_ble_eq_true rfl, Nat.zero_le _, Nat.zero_le _⟩ dX0_takeAnswer_56 rfl ?_
        obtain ⟨x33, e35, h⟩ := gLet_s h
        refine J_top (fun y34 e36 => ?_)
        have e36x : x33 = y34 := (e36.trans e35.symm).symm
        subst e36x
        obtain ⟨h37, h⟩ := gChk_s h
        refine J_iast (ix := (x1.toNatClampNeg)) (pc1 := 60) rfl (eC13 hn1) rfl h37 dX0_takeAnswer_59 rfl ?_
        obtain ⟨μ38, e39, h⟩ := gLet_s h
        rw [← e39]
        clear e39
        refine J_aload_n (i := 0) (q := 1) (pc1 := 61) dX0_takeAnswer_60 rfl rfl rfl ?_
        refine J_aload_n (i := 1) (q := 2) (pc1 := 62) dX0_takeAnswer_61 rfl rfl rfl ?_
        refine J_iload_n (i := 3) (q := 0) (pc1 := 63) dX0_takeAnswer_62 rfl rfl rfl ?_
        obtain ⟨μ41, hc40, h⟩ := gBp_s h
        refine J_callV (As := [.ref (ad 11 n1), .int x1]) (ad := ad) (f := 6) (i := q0) (st := []) (st1 := []) (pc1 := 66) (kX0_sendTo l D tc sa ad nc hnc hI q0 hq0 n1 hn1 x1 μ38 μ41 hc40) wcX0_sendTo wlX0_210 (eC6 hq0) rfl rfl rfl ⟨rfl, rfl, Nat.le_of_ble_eq_true rfl, Nat.le_of_ble_eq_true rfl⟩ ⟨Nat.zero_le _, Nat.zero_le _⟩ (Nat.le_of_ble_eq_true rfl) dX0_takeAnswer_63 rfl rfl ?_
        refine J_iconst (v := 0) (pc1 := 67) dX0_takeAnswer_66 (by decide) rfl ?_
        cases h
        exact J_iret hr hlk dX0_takeAnswer_67
    · rw [if_neg q6] at h
      refine J_iconst (v := 0) (pc1 := 25) dX0_takeAnswer_24 (by decide) rfl ?_
      cases h
      exact J_iret hr hlk dX0_takeAnswer_25
def mX0_answer (nc : Nat) (q0 : Nat) (n1 : Nat) (t2 : Nat) (a3 : Int32) (a4 : Int32) (μ : gM) : Option gM :=
  gBd (mX0_open nc q0 3 n1 (μ 19 t2 5) μ) fun r2 μ3 =>
  gChk (r2 < 42 * nc) <|
  gChk (a3 = 0 ∨ a3 = 1) <|
  gLet (α := gM) (w3 μ3 19 r2 12 a3) fun μ6 =>
  gLet (α := gM) (w3 μ6 19 r2 10 a4) fun μ8 =>
  gLet (α := gM) (w3 μ8 19 r2 9 (μ8 19 t2 9)) fun μ10 =>
  gBp (mX3_post nc q0 μ10) fun μ13 =>
  some μ13
set_option maxHeartbeats 4000000 in
set_option maxRecDepth 100000 in
theorem kX0_answer (l : Launch) (D : va_G) (tc : Nat → ClassId) (sa : Nat → Nat) (ad : Nat → Nat → Nat) (nc : Nat) (hnc : 0 < nc ∧ nc ≤ 2) (hI : gI (gE_C nc) ad) (q0 : Nat) (hq0 : q0 < nc) (n1 : Nat) (hn1 : n1 < 5 * nc) (t2 : Nat) (ht2 : t2 < 42 * nc) (a3 : Int32) (a4 : Int32) (μ : gM) (μ' : gM) (h : mX0_answer nc q0 n1 t2 a3 a4 μ = some μ') : gMet l yX0_answer cX0_answer 6 (none) ({ frames := 2, cells := 0, slots := 0, locals := 44 } : Room) D (gE_C nc) gkd_C tc ad (grh_C nc) sa [.ref (ad 6 q0), .ref (ad 11 n1), .ref (ad 19 t2), .int a3, .int a4] μ (none) μ' := by
  refine gMet_of hI ⟨by decide +kernel, Nat.le_of_ble_eq_true rfl⟩ (fun p e s m args below meth c sz hr hlk => ?_)
  unfold mX0_answer at h
  show JC p l e ({ frames := 2, cells := 0, slots := 0, locals := 44 } : Room) s m args below meth c cX0_answer 6 RX0 D tc sa ad nc sz (none) μ' μ 0 [(0, .ref (ad 6 q0)), (1, .ref (ad 11 n1)), (2, .ref (ad 19 t2)), (3, .int a3), (4, .int a4)] []
  refine J_aload_n (i := 0) (q := 0) (pc1 := 1) dX0_answer_0 rfl rfl rfl ?_
  refine J_iconst (v := 3) (pc1 := 2) dX0_answer_1 (by decide) rfl ?_
  refine J_aload_n (i := 1) (q := 1) (pc1 := 3) dX0_answer_2 rfl rfl rfl ?_
  refine J_aload_n (i := 2) (q := 2) (pc1 := 4) dX0_answer_3 rfl rfl rfl ?_
  refine J_getI (T := TX2) (pc1 := 7) (eC19 ht2) rfl rfl inX2 5 (by decide) rfl flX0_85 rfl dX0_answer_4 rfl ?_
  obtain ⟨r2, μ3, hc1, h⟩ := gBd_s h
  obtain ⟨h4, h⟩ := gChk_s h
  refine J_callV (As := [.int 3, .ref (ad 11 n1), .int (μ 19 t2 5)]) (ad := ad) (f := 6) (i := q0) (st := []) (st1 := [.ref (ad 19 r2)]) (pc1 := 10) (kX0_open l D tc sa ad nc hnc hI q0 hq0 3 n1 hn1 (μ 19 t2 5) μ r2 μ3 hc1) wcX0_open wlX0_163 (eC6 hq0) rfl rfl rfl ⟨rfl, rfl, Nat.le_of_ble_eq_true rfl, Nat.le_of_ble_eq_true rfl⟩ ⟨Nat.zero_le _, Nat.zero_le _⟩ (Nat.le_of_ble_eq_true rfl) dX0_answer_7 rfl rfl ?_
  refine J_astore (i := 5) (lv1 := [(5, .ref (ad 19 r2)), (0, .ref (ad 6 q0)), (1, .ref (ad 11 n1)), (2, .ref (ad 19 t2)), (3, .int a3), (4, .int a4)]) (pc1 := 12) dX0_answer_10 (by decide) rfl rfl ?_
  refine J_aload (i := 5) (q := 0) (pc1 := 14) dX0_answer_12 rfl rfl ?_
  refine J_iload_n (i := 3) (q := 4) (pc1 := 15) dX0_answer_14 rfl rfl rfl ?_
  obtain ⟨h5, h⟩ := gChk_s h
  refine J_putI (T := TX2) (pc1 := 18) (eC19 h4) rfl rfl inX2 tyX2 tyX2_ok nmX2 12 (by decide) rfl (fun _ _ _ _ => gh19) flX0_267 rfl rfl (gZn h5) (gZf h5) dX0_answer_15 rfl ?_
  obtain ⟨μ6, e7, h⟩ := gLet_s h
  rw [← e7]
  clear e7
  refine J_aload (i := 5) (q := 0) (pc1 := 20) dX0_answer_18 rfl rfl ?_
  refine J_iload (i := 4) (q := 5) (pc1 := 22) dX0_answer_20 rfl rfl ?_
  refine J_putI (T := TX2) (pc1 := 25) (eC19 h4) rfl rfl inX2 tyX2 tyX2_ok nmX2 10 (by decide) rfl (fun _ _ _ _ => gh19) flX0_167 rfl rfl rfl rfl dX0_answer_22 rfl ?_
  obtain ⟨μ8, e9, h⟩ := gLet_s h
  rw [← e9]
  clear e9
  refine J_aload (i := 5) (q := 0) (pc1 := 27) dX0_answer_25 rfl rfl ?_
  refine J_aload_n (i := 2) (q := 3) (pc1 := 28) dX0_answer_27 rfl rfl rfl ?_
  refine J_getI (T := TX2) (pc1 := 31) (eC19 ht2) rfl rfl inX2 9 (by decide) rfl flX0_239 rfl dX0_answer_28 rfl ?_
  refine J_putI (T := TX2) (pc1 := 34) (eC19 h4) rfl rfl inX2 tyX2 tyX2_ok nmX2 9 (by decide) rfl (fun _ _ _ _ => gh19) flX0_239 rfl rfl rfl rfl dX0_answer_31 rfl ?_
  obtain ⟨μ10, e11, h⟩ := gLet_s h
  rw [← e11]
  clear e11
  refine J_aload_n (i := 0) (q := 1) (pc1 := 35) dX0_answer_34 rfl rfl rfl ?_
  refine J_getR (T := TX0) (f' := 9) (i' := q0) (pc1 := 38) (eC6 hq0) rfl rfl inX0 1 (by decide) rfl rfl flX0_23 rfl dX0_answer_35 rfl ?_
  obtain ⟨μ13, hc12, h⟩ := gBp_s h
  refine J_callV (As := []) (ad := ad) (f := 9) (i := q0) (st := []) (st1 := []) (pc1 := 41) (kX3_post l D tc sa ad nc hnc hI q0 hq0 μ10 μ13 hc12) wcX3_post wlX0_176 (eC9 hq0) rfl rfl rfl ⟨rfl, rfl, Nat.le_of_ble_eq_true rfl, Nat.le_of_ble_eq_true rfl⟩ ⟨Nat.zero_le _, Nat.zero_le _⟩ (Nat.le_of_ble_eq_true rfl) dX0_answer_38 rfl rfl ?_
  cases h
  exact J_vret hr hlk dX0_answer_41
def mX0_takeAppend (nc : Nat) (q0 : Nat) (n1 : Nat) (t2 : Nat) (μ : gM) : Option (Int32 × gM) :=
  gBp (mX1_fits nc n1 (μ 19 t2 10) (μ 19 t2 11) μ) fun r2 =>
  if r2 = 0 then
    gBp (mX1_lastIndex nc n1 μ) fun r61 =>
    gLet (α := Int32) (if ((μ 19 t2 10) - 1) < r61 then ((μ 19 t2 10) - 1) else r61) fun x62 =>
    gBp (mX0_answer nc q0 n1 t2 0 x62 μ) fun μ67 =>
    some (0, μ67)
  else
    gLet (α := Int32) (μ 19 t2 10) fun x4 =>
    gJon (fun (x8 : Int32) (μ9 : gM) =>
        gLet (α := Int32) (if x8 < (μ9 19 t2 13) then x8 else (μ9 19 t2 13)) fun x11 =>
        gLet (α := Int32) (if (μ9 11 n1 9) < x11 then x11 else (μ9 11 n1 9)) fun x15 =>
        gLet (α := gM) (w3 μ9 11 n1 9 x15) fun μ19 =>
        gBp (mX0_answer nc q0 n1 t2 1 x8 μ19) fun μ22 =>
        some (0, μ22)) fun j10 =>
    gJon (fun (x23 : Int32) (μ24 : gM) =>
        j10 x23 μ24) fun j25 =>
    gFx3 (fun rec29 (x26 : Int32) (x27 : Int32) (μ28 : gM) =>
        if (μ28 19 t2 3) ≤ x27 then
          j10 x26 μ28
        else
          if 4 ≤ x27 then
            j10 x26 μ28
          else
            gLet (α := Int32) (x26 + 1) fun x32 =>
            gBp (mX1_has nc n1 x32 μ28) fun r37 =>
            gJon (fun (μ38 : gM) =>
                gBp (mX1_lastIndex nc n1 μ38) fun r41 =>
                if x32 ≤ r41 then
                  rec29 x32 (x27 + 1) μ38
                else
                  gChk (inb x27 4) <|
                  gChk (inb x27 4) <|
                  gChk (inb x27 4) <|
                  gBd (mX1_append nc n1 (μ38 20 t2 (x27.toNatClampNeg)) (μ38 21 t2 (x27.toNatClampNeg)) (μ38 22 t2 (x27.toNatClampNeg)) μ38) fun r47 μ48 =>
                  if r47 = 0 then
                    j25 x26 μ48
                  else
                    rec29 x32 (x27 + 1) μ48) fun j39 =>
            if r37 = 0 then
              j39 μ28
            else
              gBp (mX1_termAt nc n1 x32 μ28) fun r52 =>
              gChk (inb x27 4) <|
              if r52 = (μ28 20 t2 (x27.toNatClampNeg)) then
                j39 μ28
              else
                gBd (mX1_cutFrom nc n1 x32 μ28) fun r56 μ57 =>
                gLet (α := gM) (w3 μ57 6 q0 7 ((μ28 6 q0 7) + r56)) fun μ58 =>
                j39 μ58) 1000000 x4 0 μ
set_option maxHeartbeats 4000000 in
set_option maxRecDepth 100000 in
theorem kX0_takeAppend (l : Launch) (D : va_G) (tc : Nat → ClassId) (sa : Nat → Nat) (ad : Nat → Nat → Nat) (nc : Nat) (hnc : 0 < nc ∧ nc ≤ 2) (hI : gI (gE_C nc) ad) (q0 : Nat) (hq0 : q0 < nc) (n1 : Nat) (hn1 : n1 < 5 * nc) (t2 : Nat) (ht2 : t2 < 42 * nc) (μ : gM) (r : Int32) (μ' : gM) (h : mX0_takeAppend nc q0 n1 t2 μ = some (r, μ')) : gMet l yX0_takeAppend cX0_takeAppend 7 (some .int) ({ frames := 3, cells := 0, slots := 0, locals := 69 } : Room) D (gE_C nc) gkd_C tc ad (grh_C nc) sa [.ref (ad 6 q0), .ref (ad 11 n1), .ref (ad 19 t2)] μ (some (.int r)) μ' := by
  refine gMet_of hI ⟨by decide +kernel, Nat.le_of_ble_eq_true rfl⟩ (fun p e s m args below meth c sz hr hlk => ?_)
  unfold mX0_takeAppend at h
  show JC p l e ({ frames := 3, cells := 0, slots := 0, locals := 69 } : Room) s m args below meth c cX0_takeAppend 7 RX0 D tc sa ad nc sz (some (.int r)) μ' μ 0 [(0, .ref (ad 6 q0)), (1, .ref (ad 11 n1)), (2, .ref (ad 19 t2))] []
  refine J_aload_n (i := 1) (q := 1) (pc1 := 1) dX0_takeAppend_0 rfl rfl rfl ?_
  refine J_getR (T := TX4) (f' := 12) (i' := n1) (pc1 := 4) (eC11 hn1) rfl rfl inX4 1 (by decide) rfl rfl flX0_113 rfl dX0_takeAppend_1 rfl ?_
  refine J_astore_n (i := 3) (lv1 := [(3, .ref (ad 12 n1)), (0, .ref (ad 6 q0)), (1, .ref (ad 11 n1)), (2, .ref (ad 19 t2))]) (pc1 := 5) dX0_takeAppend_4 rfl (by decide) rfl rfl ?_
  refine J_aload_n (i := 3) (q := 0) (pc1 := 6) dX0_takeAppend_5 rfl rfl rfl ?_
  refine J_aload_n (i := 2) (q := 3) (pc1 := 7) dX0_takeAppend_6 rfl rfl rfl ?_
  refine J_getI (T := TX2) (pc1 := 10) (eC19 ht2) rfl rfl inX2 10 (by decide) rfl flX0_167 rfl dX0_takeAppend_7 rfl ?_
  refine J_aload_n (i := 2) (q := 3) (pc1 := 11) dX0_takeAppend_10 rfl rfl rfl ?_
  refine J_getI (T := TX2) (pc1 := 14) (eC19 ht2) rfl rfl inX2 11 (by decide) rfl flX0_173 rfl dX0_takeAppend_11 rfl ?_
  obtain ⟨r2, hc1, h⟩ := gBp_s h
  refine J_callV (As := [.int (μ 19 t2 10), .int (μ 19 t2 11)]) (ad := ad) (f := 12) (i := n1) (st := []) (st1 := [.int r2]) (pc1 := 17) (kX1_fits l D tc sa ad nc hnc hI n1 hn1 (μ 19 t2 10) (μ 19 t2 11) μ r2 hc1) wcX1_fits wlX0_285 (eC12 hn1) rfl rfl rfl ⟨rfl, rfl, Nat.le_of_ble_eq_true rfl, Nat.le_of_ble_eq_true rfl⟩ ⟨Nat.zero_le _, Nat.zero_le _⟩ (Nat.le_of_ble_eq_true rfl) dX0_takeAppend_14 rfl rfl ?_
  refine J_if_ne (tgt := 42) (pc1 := 20) dX0_takeAppend_17 (by decide) (fun q3 => ?_) rfl (fun q3 => ?_)
  · rw [if_neg q3] at h
    refine J_aload_n (i := 2) (q := 3) (pc1 := 43) dX0_takeAppend_42 rfl rfl rfl ?_
    refine J_getI (T := TX2) (pc1 := 46) (eC19 ht2) rfl rfl inX2 10 (by decide) rfl flX0_167 rfl dX0_takeAppend_43 rfl ?_
    obtain ⟨x4, e6, h⟩ := gLet_s h
    refine J_top (fun y5 e7 => ?_)
    have e7x : x4 = y5 := (e7.trans e6.symm).symm
    subst e7x
    refine J_istore (i := 4) (lv1 := [(4, .int x4), (3, .ref (ad 12 n1)), (0, .ref (ad 6 q0)), (1, .ref (ad 11 n1)), (2, .ref (ad 19 t2))]) (pc1 := 48) dX0_takeAppend_46 (by decide) rfl rfl ?_
    refine J_iconst (v := 0) (pc1 := 49) dX0_takeAppend_48 (by decide) rfl ?_
    refine J_istore (i := 5) (lv1 := [(5, .int 0), (4, .int x4), (3, .ref (ad 12 n1)), (0, .ref (ad 6 q0)), (1, .ref (ad 11 n1)), (2, .ref (ad 19 t2))]) (pc1 := 51) dX0_takeAppend_49 (by decide) rfl rfl ?_
    obtain ⟨j10, ej10, h⟩ := gJon_s h
    have kj10 : ∀ (x8 : Int32) (μ9 : gM), j10 x8 μ9 = some (r, μ') → JC p l e ({ frames := 3, cells := 0, slots := 0, locals := 69 } : Room) s m args below meth c cX0_takeAppend 7 RX0 D tc sa ad nc sz (some (.int r)) μ' μ9 162 [(0, .ref (ad 6 q0)), (1, .ref (ad 11 n1)), (2, .ref (ad 19 t2)), (4, .int x8)] [] := by
      intro x8 μ9 h
      rw [ej10] at h
      try dsimp only at h
      refine J_aload_n (i := 1) (q := 1) (pc1 := 163) dX0_takeAppend_162 rfl rfl rfl ?_
      refine J_aload_n (i := 1) (q := 1) (pc1 := 164) dX0_takeAppend_163 rfl rfl rfl ?_
      refine J_getI (T := TX4) (pc1 := 167) (eC11 hn1) rfl rfl inX4 9 (by decide) rfl flX0_122 rfl dX0_takeAppend_164 rfl ?_
      refine J_aload_n (i := 2) (q := 2) (pc1 := 168) dX0_takeAppend_167 rfl rfl rfl ?_
      refine J_getI (T := TX2) (pc1 := 171) (eC19 ht2) rfl rfl inX2 13 (by decide) rfl flX0_220 rfl dX0_takeAppend_168 rfl ?_
      refine J_iload (i := 4) (q := 3) (pc1 := 173) dX0_takeAppend_171 rfl rfl ?_
      refine J_mmin (pc1 := 176) wlX0_270 stMmin iniMath cdMmin ⟨Nat.le_of_ble_eq_true rfl, Nat.le_of_ble_eq_true rfl, Nat.zero_le _, Nat.zero_le _⟩ dX0_takeAppend_173 rfl ?_
      obtain ⟨x11, e13, h⟩ := gLet_s h
      refine J_top (fun y12 e14 => ?_)
      have e14x : x11 = y12 := (e14.trans e13.symm).symm
      subst e14x
      refine J_mmax (pc1 := 179) wlX0_276 stMmax iniMath cdMmax ⟨Nat.le_of_ble_eq_true rfl, Nat.le_of_ble_eq_true rfl, Nat.zero_le _, Nat.zero_le _⟩ dX0_takeAppend_176 rfl ?_
      obtain ⟨x15, e17, h⟩ := gLet_s h
      refine J_top (fun y16 e18 => ?_)
      have e18x : x15 = y16 := (e18.trans e17.symm).symm
      subst e18x
      refine J_putI (T := TX4) (pc1 := 182) (eC11 hn1) rfl rfl inX4 tyX4 tyX4_ok nmX4 9 (by decide) rfl (fun _ _ _ _ => gh11) flX0_122 rfl rfl rfl rfl dX0_takeAppend_179 rfl ?_
      obtain ⟨μ19, e20, h⟩ := gLet_s h
      rw [← e20]
      clear e20
      refine J_aload_n (i := 0) (q := 0) (pc1 := 183) dX0_takeAppend_182 rfl rfl rfl ?_
      refine J_aload_n (i := 1) (q := 1) (pc1 := 184) dX0_takeAppend_183 rfl rfl rfl ?_
      refine J_aload_n (i := 2) (q := 2) (pc1 := 185) dX0_takeAppend_184 rfl rfl rfl ?_
      refine J_iconst (v := 1) (pc1 := 186) dX0_takeAppend_185 (by decide) rfl ?_
      refine J_iload (i := 4) (q := 3) (pc1 := 188) dX0_takeAppend_186 rfl rfl ?_
      obtain ⟨μ22, hc21, h⟩ := gBp_s h
      refine J_callV (As := [.ref (ad 11 n1), .ref (ad 19 t2), .int 1, .int x8]) (ad := ad) (f := 6) (i := q0) (st := []) (st1 := []) (pc1 := 191) (kX0_answer l D tc sa ad nc hnc hI q0 hq0 n1 hn1 t2 ht2 1 x8 μ19 μ22 hc21) wcX0_answer wlX0_254 (eC6 hq0) rfl rfl rfl ⟨rfl, rfl, Nat.le_of_ble_eq_true rfl, Nat.le_of_ble_eq_true rfl⟩ ⟨Nat.zero_le _, Nat.zero_le _⟩ (Nat.le_of_ble_eq_true rfl) dX0_takeAppend_188 rfl rfl ?_
      refine J_iconst (v := 0) (pc1 := 192) dX0_takeAppend_191 (by decide) rfl ?_
      cases h
      exact J_iret hr hlk dX0_takeAppend_192
    clear ej10
    obtain ⟨j25, ej25, h⟩ := gJon_s h
    have kj25 : ∀ (x23 : Int32) (μ24 : gM), j25 x23 μ24 = some (r, μ') → JC p l e ({ frames := 3, cells := 0, slots := 0, locals := 69 } : Room) s m args below meth c cX0_takeAppend 7 RX0 D tc sa ad nc sz (some (.int r)) μ' μ24 149 [(0, .ref (ad 6 q0)), (1, .ref (ad 11 n1)), (2, .ref (ad 19 t2)), (4, .int x23)] [] := by
      intro x23 μ24 h
      rw [ej25] at h
      try dsimp only at h
      refine J_goto (tgt := 162) dX0_takeAppend_149 (by decide) ?_
      exact kj10 _ _ h
    clear ej25
    refine J_sub [3, 4, 5, 2, 1, 0] (lv1 := [(0, .ref (ad 6 q0)), (1, .ref (ad 11 n1)), (2, .ref (ad 19 t2)), (3, .ref (ad 12 n1)), (4, .int x4), (5, .int 0)]) rfl ?_
    refine gFx3_s (P := fun x26 x27 μ28 => JC p l e ({ frames := 3, cells := 0, slots := 0, locals := 69 } : Room) s m args below meth c cX0_takeAppend 7 RX0 D tc sa ad nc sz (some (.int r)) μ' μ28 51 [(0, .ref (ad 6 q0)), (1, .ref (ad 11 n1)), (2, .ref (ad 19 t2)), (3, .ref (ad 12 n1)), (4, .int x26), (5, .int x27)] []) (fun rec29 ihrec29 x26 x27 μ28 h => ?_) _ _ _ _ h
    try dsimp only at h
    refine J_iload (i := 5) (q := 5) (pc1 := 53) dX0_takeAppend_51 rfl rfl ?_
    refine J_aload_n (i := 2) (q := 2) (pc1 := 54) dX0_takeAppend_53 rfl rfl rfl ?_
    refine J_getI (T := TX2) (pc1 := 57) (eC19 ht2) rfl rfl inX2 3 (by decide) rfl flX0_288 rfl dX0_takeAppend_54 rfl ?_
    refine J_icmp_ge (tgt := 162) (pc1 := 60) dX0_takeAppend_57 (by decide) (fun q30 => ?_) rfl (fun q30 => ?_)
    · rw [if_pos q30] at h
      refine J_sub [0, 1, 2, 4] (lv1 := [(0, .ref (ad 6 q0)), (1, .ref (ad 11 n1)), (2, .ref (ad 19 t2)), (4, .int x26)]) rfl ?_
      exact kj10 _ _ h
    · rw [if_neg q30] at h
      refine J_iload (i := 5) (q := 5) (pc1 := 62) dX0_takeAppend_60 rfl rfl ?_
      refine J_iconst (v := 4) (pc1 := 63) dX0_takeAppend_62 (by decide) rfl ?_
      refine J_icmp_ge (tgt := 162) (pc1 := 66) dX0_takeAppend_63 (by decide) (fun q31 => ?_) rfl (fun q31 => ?_)
      · rw [if_pos q31] at h
        refine J_sub [0, 1, 2, 4] (lv1 := [(0, .ref (ad 6 q0)), (1, .ref (ad 11 n1)), (2, .ref (ad 19 t2)), (4, .int x26)]) rfl ?_
        exact kj10 _ _ h
      · rw [if_neg q31] at h
        refine J_iload (i := 4) (q := 4) (pc1 := 68) dX0_takeAppend_66 rfl rfl ?_
        refine J_iconst (v := 1) (pc1 := 69) dX0_takeAppend_68 (by decide) rfl ?_
        refine J_iadd (pc1 := 70) dX0_takeAppend_69 rfl ?_
        obtain ⟨x32, e34, h⟩ := gLet_s h
        refine J_top (fun y33 e35 => ?_)
        have e35x : x32 = y33 := (e35.trans e34.symm).symm
        subst e35x
        refine J_istore (i := 6) (lv1 := [(6, .int x32), (0, .ref (ad 6 q0)), (1, .ref (ad 11 n1)), (2, .ref (ad 19 t2)), (3, .ref (ad 12 n1)), (4, .int x26), (5, .int x27)]) (pc1 := 72) dX0_takeAppend_70 (by decide) rfl rfl ?_
        refine J_aload_n (i := 3) (q := 4) (pc1 := 73) dX0_takeAppend_72 rfl rfl rfl ?_
        refine J_iload (i := 6) (q := 0) (pc1 := 75) dX0_takeAppend_73 rfl rfl ?_
        obtain ⟨r37, hc36, h⟩ := gBp_s h
        refine J_callV (As := [.int x32]) (ad := ad) (f := 12) (i := n1) (st := []) (st1 := [.int r37]) (pc1 := 78) (kX1_has l D tc sa ad nc hnc hI n1 hn1 x32 μ28 r37 hc36) wcX1_has wlX0_289 (eC12 hn1) rfl rfl rfl ⟨rfl, rfl, Nat.le_of_ble_eq_true rfl, Nat.le_of_ble_eq_true rfl⟩ ⟨Nat.zero_le _, Nat.zero_le _⟩ (Nat.le_of_ble_eq_true rfl) dX0_takeAppend_75 rfl rfl ?_
        obtain ⟨j39, ej39, h⟩ := gJon_s h
        have kj39 : ∀ (μ38 : gM), j39 μ38 = some (r, μ') → JC p l e ({ frames := 3, cells := 0, slots := 0, locals := 69 } : Room) s m args below meth c cX0_takeAppend 7 RX0 D tc sa ad nc sz (some (.int r)) μ' μ38 112 [(0, .ref (ad 6 q0)), (1, .ref (ad 11 n1)), (2, .ref (ad 19 t2)), (3, .ref (ad 12 n1)), (4, .int x26), (5, .int x27), (6, .int x32)] [] := by
          intro μ38 h
          rw [ej39] at h
          try dsimp only at h
          refine J_iload (i := 6) (q := 6) (pc1 := 114) dX0_takeAppend_112 rfl rfl ?_
          refine J_aload_n (i := 3) (q := 3) (pc1 := 115) dX0_takeAppend_114 rfl rfl rfl ?_
          obtain ⟨r41, hc40, h⟩ := gBp_s h
          refine J_callV (As := []) (ad := ad) (f := 12) (i := n1) (st := [.int x32]) (st1 := [.int r41, .int x32]) (pc1 := 118) (kX1_lastIndex l D tc sa ad nc hnc hI n1 hn1 μ38 r41 hc40) wcX1_lastIndex wlX0_125 (eC12 hn1) rfl rfl rfl ⟨rfl, rfl, Nat.le_of_ble_eq_true rfl, Nat.le_of_ble_eq_true rfl⟩ ⟨Nat.zero_le _, Nat.zero_le _⟩ (Nat.le_of_ble_eq_true rfl) dX0_takeAppend_115 rfl rfl ?_
          refine J_icmp_le (tgt := 152) (pc1 := 121) dX0_takeAppend_118 (by decide) (fun q42 => ?_) rfl (fun q42 => ?_)
          · rw [if_pos q42] at h
            refine J_iload (i := 6) (q := 6) (pc1 := 154) dX0_takeAppend_152 rfl rfl ?_
            refine J_istore (i := 4) (lv1 := [(4, .int x32), (0, .ref (ad 6 q0)), (1, .ref (ad 11 n1)), (2, .ref (ad 19 t2)), (3, .ref (ad 12 n1)), (5, .int x27), (6, .int x32)]) (pc1 := 156) dX0_takeAppend_154 (by decide) rfl rfl ?_
            refine J_iinc (i := 5) (q := 5) (v := x27 + 1) (lv1 := [(5, .int (x27 + 1)), (4, .int x32), (0, .ref (ad 6 q0)), (1, .ref (ad 11 n1)), (2, .ref (ad 19 t2)), (3, .ref (ad 12 n1)), (6, .int x32)]) (pc1 := 159) dX0_takeAppend_156 rfl rfl (by decide) rfl rfl ?_
            refine J_goto (tgt := 51) dX0_takeAppend_159 (by decide) ?_
            refine J_sub [2, 3, 4, 5, 1, 0] (lv1 := [(0, .ref (ad 6 q0)), (1, .ref (ad 11 n1)), (2, .ref (ad 19 t2)), (3, .ref (ad 12 n1)), (4, .int x32), (5, .int (x27 + 1))]) rfl ?_
            exact ihrec29 _ _ _ h
          · rw [if_neg q42] at h
            refine J_aload_n (i := 3) (q := 3) (pc1 := 122) dX0_takeAppend_121 rfl rfl rfl ?_
            refine J_aload_n (i := 2) (q := 2) (pc1 := 123) dX0_takeAppend_122 rfl rfl rfl ?_
            refine J_getR (T := TX2) (f' := 20) (i' := t2) (pc1 := 126) (eC19 ht2) rfl rfl inX2 0 (by decide) rfl rfl flX0_292 rfl dX0_takeAppend_123 rfl ?_
            refine J_iload (i := 5) (q := 5) (pc1 := 128) dX0_takeAppend_126 rfl rfl ?_
            obtain ⟨h43, h⟩ := gChk_s h
            refine J_iald (ix := (x27.toNatClampNeg)) (pc1 := 129) rfl (eC20 ht2) rfl h43 dX0_takeAppend_128 rfl ?_
            refine J_aload_n (i := 2) (q := 2) (pc1 := 130) dX0_takeAppend_129 rfl rfl rfl ?_
            refine J_getR (T := TX2) (f' := 21) (i' := t2) (pc1 := 133) (eC19 ht2) rfl rfl inX2 1 (by decide) rfl rfl flX0_298 rfl dX0_takeAppend_130 rfl ?_
            refine J_iload (i := 5) (q := 5) (pc1 := 135) dX0_takeAppend_133 rfl rfl ?_
            obtain ⟨h44, h⟩ := gChk_s h
            refine J_iald (ix := (x27.toNatClampNeg)) (pc1 := 136) rfl (eC21 ht2) rfl h44 dX0_takeAppend_135 rfl ?_
            refine J_aload_n (i := 2) (q := 2) (pc1 := 137) dX0_takeAppend_136 rfl rfl rfl ?_
            refine J_getR (T := TX2) (f' := 22) (i' := t2) (pc1 := 140) (eC19 ht2) rfl rfl inX2 2 (by decide) rfl rfl flX0_301 rfl dX0_takeAppend_137 rfl ?_
            refine J_iload (i := 5) (q := 5) (pc1 := 142) dX0_takeAppend_140 rfl rfl ?_
            obtain ⟨h45, h⟩ := gChk_s h
            refine J_iald (ix := (x27.toNatClampNeg)) (pc1 := 143) rfl (eC22 ht2) rfl h45 dX0_takeAppend_142 rfl ?_
            obtain ⟨r47, μ48, hc46, h⟩ := gBd_s h
            refine J_callV (As := [.int (μ38 20 t2 (x27.toNatClampNeg)), .int (μ38 21 t2 (x27.toNatClampNeg)), .int (μ38 22 t2 (x27.toNatClampNeg))]) (ad := ad) (f := 12) (i := n1) (st := []) (st1 := [.int r47]) (pc1 := 146) (kX1_append l D tc sa ad nc hnc hI n1 hn1 (μ38 20 t2 (x27.toNatClampNeg)) (μ38 21 t2 (x27.toNatClampNeg)) (μ38 22 t2 (x27.toNatClampNeg)) μ38 r47 μ48 hc46) wcX1_append wlX0_132 (eC12 hn1) rfl rfl rfl ⟨rfl, rfl, Nat.le_of_ble_eq_true rfl, Nat.le_of_ble_eq_true rfl⟩ ⟨Nat.zero_le _, Nat.zero_le _⟩ (Nat.le_of_ble_eq_true rfl) dX0_takeAppend_143 rfl rfl ?_
            refine J_if_ne (tgt := 152) (pc1 := 149) dX0_takeAppend_146 (by decide) (fun q49 => ?_) rfl (fun q49 => ?_)
            · rw [if_neg q49] at h
              refine J_iload (i := 6) (q := 6) (pc1 := 154) dX0_takeAppend_152 rfl rfl ?_
              refine J_istore (i := 4) (lv1 := [(4, .int x32), (0, .ref (ad 6 q0)), (1, .ref (ad 11 n1)), (2, .ref (ad 19 t2)), (3, .ref (ad 12 n1)), (5, .int x27), (6, .int x32)]) (pc1 := 156) dX0_takeAppend_154 (by decide) rfl rfl ?_
              refine J_iinc (i := 5) (q := 5) (v := x27 + 1) (lv1 := [(5, .int (x27 + 1)), (4, .int x32), (0, .ref (ad 6 q0)), (1, .ref (ad 11 n1)), (2, .ref (ad 19 t2)), (3, .ref (ad 12 n1)), (6, .int x32)]) (pc1 := 159) dX0_takeAppend_156 rfl rfl (by decide) rfl rfl ?_
              refine J_goto (tgt := 51) dX0_takeAppend_159 (by decide) ?_
              refine J_sub [2, 3, 4, 5, 1, 0] (lv1 := [(0, .ref (ad 6 q0)), (1, .ref (ad 11 n1)), (2, .ref (ad 19 t2)), (3, .ref (ad 12 n1)), (4, .int x32), (5, .int (x27 + 1))]) rfl ?_
              exact ihrec29 _ _ _ h
            · rw [if_pos q49] at h
              refine J_sub [0, 1, 2, 4] (lv1 := [(0, .ref (ad 6 q0)), (1, .ref (ad 11 n1)), (2, .ref (ad 19 t2)), (4, .int x26)]) rfl ?_
              exact kj25 _ _ h
        clear ej39
        refine J_if_eq (tgt := 112) (pc1 := 81) dX0_takeAppend_78 (by decide) (fun q50 => ?_) rfl (fun q50 => ?_)
        · rw [if_pos q50] at h
          refine J_sub [1, 2, 3, 4, 5, 6, 0] (lv1 := [(0, .ref (ad 6 q0)), (1, .ref (ad 11 n1)), (2, .ref (ad 19 t2)), (3, .ref (ad 12 n1)), (4, .int x26), (5, .int x27), (6, .int x32)]) rfl ?_
          exact kj39 _ h
        · rw [if_neg q50] at h
          refine J_aload_n (i := 3) (q := 4) (pc1 := 82) dX0_takeAppend_81 rfl rfl rfl ?_
          refine J_iload (i := 6) (q := 0) (pc1 := 84) dX0_takeAppend_82 rfl rfl ?_
          obtain ⟨r52, hc51, h⟩ := gBp_s h
          refine J_callV (As := [.int x32]) (ad := ad) (f := 12) (i := n1) (st := []) (st1 := [.int r52]) (pc1 := 87) (kX1_termAt l D tc sa ad nc hnc hI n1 hn1 x32 μ28 r52 hc51) wcX1_termAt wlX0_191 (eC12 hn1) rfl rfl rfl ⟨rfl, rfl, Nat.le_of_ble_eq_true rfl, Nat.le_of_ble_eq_true rfl⟩ ⟨Nat.zero_le _, Nat.zero_le _⟩ (Nat.le_of_ble_eq_true rfl) dX0_takeAppend_84 rfl rfl ?_
          refine J_aload_n (i := 2) (q := 3) (pc1 := 88) dX0_takeAppend_87 rfl rfl rfl ?_
          refine J_getR (T := TX2) (f' := 20) (i' := t2) (pc1 := 91) (eC19 ht2) rfl rfl inX2 0 (by decide) rfl rfl flX0_292 rfl dX0_takeAppend_88 rfl ?_
          refine J_iload (i := 5) (q := 6) (pc1 := 93) dX0_takeAppend_91 rfl rfl ?_
          obtain ⟨h53, h⟩ := gChk_s h
          refine J_iald (ix := (x27.toNatClampNeg)) (pc1 := 94) rfl (eC20 ht2) rfl h53 dX0_takeAppend_93 rfl ?_
          refine J_icmp_eq (tgt := 112) (pc1 := 97) dX0_takeAppend_94 (by decide) (fun q54 => ?_) rfl (fun q54 => ?_)
          · rw [if_pos q54] at h
            refine J_sub [1, 2, 3, 4, 5, 6, 0] (lv1 := [(0, .ref (ad 6 q0)), (1, .ref (ad 11 n1)), (2, .ref (ad 19 t2)), (3, .ref (ad 12 n1)), (4, .int x26), (5, .int x27), (6, .int x32)]) rfl ?_
            exact kj39 _ h
          · rw [if_neg q54] at h
            refine J_aload_n (i := 0) (q := 1) (pc1 := 98) dX0_takeAppend_97 rfl rfl rfl ?_
            refine J_dup (pc1 := 99) dX0_takeAppend_98 rfl rfl ?_
            refine J_getI (T := TX0) (pc1 := 102) (eC6 hq0) rfl rfl inX0 7 (by decide) rfl flX0_44 rfl dX0_takeAppend_99 rfl ?_
            refine J_aload_n (i := 3) (q := 4) (pc1 := 103) dX0_takeAppend_102 rfl rfl rfl ?_
            refine J_iload (i := 6) (q := 0) (pc1 := 105) dX0_takeAppend_103 rfl rfl ?_
            obtain ⟨r56, μ57, hc55, h⟩ := gBd_s h
            refine J_callV (As := [.int x32]) (ad := ad) (f := 12) (i := n1) (st := [.int (μ28 6 q0 7), .ref (ad 6 q0)]) (st1 := [.int r56, .int (μ28 6 q0 7), .ref (ad 6 q0)]) (pc1 := 108) (kX1_cutFrom l D tc sa ad nc hnc hI n1 hn1 x32 μ28 r56 μ57 hc55) wcX1_cutFrom wlX0_295 (eC12 hn1) rfl rfl rfl ⟨rfl, rfl, Nat.le_of_ble_eq_true rfl, Nat.le_of_ble_eq_true rfl⟩ ⟨Nat.zero_le _, Nat.zero_le _⟩ (Nat.le_of_ble_eq_true rfl) dX0_takeAppend_105 rfl rfl ?_
            refine J_iadd (pc1 := 109) dX0_takeAppend_108 rfl ?_
            refine J_putI (T := TX0) (pc1 := 112) (eC6 hq0) rfl rfl inX0 tyX0 tyX0_ok nmX0 7 (by decide) rfl (fun _ _ _ _ => gh6) flX0_44 rfl rfl rfl rfl dX0_takeAppend_109 rfl ?_
            obtain ⟨μ58, e59, h⟩ := gLet_s h
            rw [← e59]
            clear e59
            refine J_sub [1, 2, 3, 4, 5, 6, 0] (lv1 := [(0, .ref (ad 6 q0)), (1, .ref (ad 11 n1)), (2, .ref (ad 19 t2)), (3, .ref (ad 12 n1)), (4, .int x26), (5, .int x27), (6, .int x32)]) rfl ?_
            exact kj39 _ h
  · rw [if_pos q3] at h
    refine J_aload_n (i := 0) (q := 1) (pc1 := 21) dX0_takeAppend_20 rfl rfl rfl ?_
    refine J_aload_n (i := 1) (q := 2) (pc1 := 22) dX0_takeAppend_21 rfl rfl rfl ?_
    refine J_aload_n (i := 2) (q := 3) (pc1 := 23) dX0_takeAppend_22 rfl rfl rfl ?_
    refine J_iconst (v := 0) (pc1 := 24) dX0_takeAppend_23 (by decide) rfl ?_
    refine J_aload_n (i := 3) (q := 0) (pc1 := 25) dX0_takeAppend_24 rfl rfl rfl ?_
    obtain ⟨r61, hc60, h⟩ := gBp_s h
    refine J_callV (As := []) (ad := ad) (f := 12) (i := n1) (st := [.int 0, .ref (ad 19 t2), .ref (ad 11 n1), .ref (ad 6 q0)]) (st1 := [.int r61, .int 0, .ref (ad 19 t2), .ref (ad 11 n1), .ref (ad 6 q0)]) (pc1 := 28) (kX1_lastIndex l D tc sa ad nc hnc hI n1 hn1 μ r61 hc60) wcX1_lastIndex wlX0_125 (eC12 hn1) rfl rfl rfl ⟨rfl, rfl, Nat.le_of_ble_eq_true rfl, Nat.le_of_ble_eq_true rfl⟩ ⟨Nat.zero_le _, Nat.zero_le _⟩ (Nat.le_of_ble_eq_true rfl) dX0_takeAppend_25 rfl rfl ?_
    refine J_aload_n (i := 2) (q := 3) (pc1 := 29) dX0_takeAppend_28 rfl rfl rfl ?_
    refine J_getI (T := TX2) (pc1 := 32) (eC19 ht2) rfl rfl inX2 10 (by decide) rfl flX0_167 rfl dX0_takeAppend_29 rfl ?_
    refine J_iconst (v := 1) (pc1 := 33) dX0_takeAppend_32 (by decide) rfl ?_
    refine J_isub (pc1 := 34) dX0_takeAppend_33 rfl ?_
    refine J_mmin (pc1 := 37) wlX0_270 stMmin iniMath cdMmin ⟨Nat.le_of_ble_eq_true rfl, Nat.le_of_ble_eq_true rfl, Nat.zero_le _, Nat.zero_le _⟩ dX0_takeAppend_34 rfl ?_
    obtain ⟨x62, e64, h⟩ := gLet_s h
    refine J_top (fun y63 e65 => ?_)
    have e65x : x62 = y63 := (e65.trans e64.symm).symm
    subst e65x
    obtain ⟨μ67, hc66, h⟩ := gBp_s h
    refine J_callV (As := [.ref (ad 11 n1), .ref (ad 19 t2), .int 0, .int x62]) (ad := ad) (f := 6) (i := q0) (st := []) (st1 := []) (pc1 := 40) (kX0_answer l D tc sa ad nc hnc hI q0 hq0 n1 hn1 t2 ht2 0 x62 μ μ67 hc66) wcX0_answer wlX0_254 (eC6 hq0) rfl rfl rfl ⟨rfl, rfl, Nat.le_of_ble_eq_true rfl, Nat.le_of_ble_eq_true rfl⟩ ⟨Nat.zero_le _, Nat.zero_le _⟩ (Nat.le_of_ble_eq_true rfl) dX0_takeAppend_37 rfl rfl ?_
    refine J_iconst (v := 0) (pc1 := 41) dX0_takeAppend_40 (by decide) rfl ?_
    cases h
    exact J_iret hr hlk dX0_takeAppend_41
def mX0_takeSnapshot (nc : Nat) (q0 : Nat) (n1 : Nat) (t2 : Nat) (μ : gM) : Option (Int32 × gM) :=
  gJon (fun (μ1 : gM) =>
      gBp (mX0_answer nc q0 n1 t2 1 (μ1 11 n1 9) μ1) fun μ4 =>
      some (0, μ4)) fun j2 =>
  if (μ 19 t2 10) ≤ (μ 11 n1 9) then
    j2 μ
  else
    gBp (mX1_install nc n1 t2 μ) fun μ7 =>
    gLet (α := gM) (w3 μ7 11 n1 9 (μ7 19 t2 10)) fun μ8 =>
    gLet (α := gM) (w3 μ8 6 q0 8 ((μ8 6 q0 8) + 1)) fun μ10 =>
    j2 μ10
set_option maxHeartbeats 4000000 in
set_option maxRecDepth 100000 in
theorem kX0_takeSnapshot (l : Launch) (D : va_G) (tc : Nat → ClassId) (sa : Nat → Nat) (ad : Nat → Nat → Nat) (nc : Nat) (hnc : 0 < nc ∧ nc ≤ 2) (hI : gI (gE_C nc) ad) (q0 : Nat) (hq0 : q0 < nc) (n1 : Nat) (hn1 : n1 < 5 * nc) (t2 : Nat) (ht2 : t2 < 42 * nc) (μ : gM) (r : Int32) (μ' : gM) (h : mX0_takeSnapshot nc q0 n1 t2 μ = some (r, μ')) : gMet l yX0_takeSnapshot cX0_takeSnapshot 3 (some .int) ({ frames := 3, cells := 0, slots := 0, locals := 123 } : Room) D (gE_C nc) gkd_C tc ad (grh_C nc) sa [.ref (ad 6 q0), .ref (ad 11 n1), .ref (ad 19 t2)] μ (some (.int r)) μ' := by
  refine gMet_of hI ⟨by decide +kernel, Nat.le_of_ble_eq_true rfl⟩ (fun p e s m args below meth c sz hr hlk => ?_)
  unfold mX0_takeSnapshot at h
  show JC p l e ({ frames := 3, cells := 0, slots := 0, locals := 123 } : Room) s m args below meth c cX0_takeSnapshot 3 RX0 D tc sa ad nc sz (some (.int r)) μ' μ 0 [(0, .ref (ad 6 q0)), (1, .ref (ad 11 n1)), (2, .ref (ad 19 t2))] []
  refine J_aload_n (i := 2) (q := 2) (pc1 := 1) dX0_takeSnapshot_0 rfl rfl rfl ?_
  refine J_getI (T := TX2) (pc1 := 4) (eC19 ht2) rfl rfl inX2 10 (by decide) rfl flX0_167 rfl dX0_takeSnapshot_1 rfl ?_
  refine J_aload_n (i := 1) (q := 1) (pc1 := 5) dX0_takeSnapshot_4 rfl rfl rfl ?_
  refine J_getI (T := TX4) (pc1 := 8) (eC11 hn1) rfl rfl inX4 9 (by decide) rfl flX0_122 rfl dX0_takeSnapshot_5 rfl ?_
  obtain ⟨j2, ej2, h⟩ := gJon_s h
  have kj2 : ∀ (μ1 : gM), j2 μ1 = some (r, μ') → JC p l e ({ frames := 3, cells := 0, slots := 0, locals := 123 } : Room) s m args below meth c cX0_takeSnapshot 3 RX0 D tc sa ad nc sz (some (.int r)) μ' μ1 37 [(0, .ref (ad 6 q0)), (1, .ref (ad 11 n1)), (2, .ref (ad 19 t2))] [] := by
    intro μ1 h
    rw [ej2] at h
    try dsimp only at h
    refine J_aload_n (i := 0) (q := 0) (pc1 := 38) dX0_takeSnapshot_37 rfl rfl rfl ?_
    refine J_aload_n (i := 1) (q := 1) (pc1 := 39) dX0_takeSnapshot_38 rfl rfl rfl ?_
    refine J_aload_n (i := 2) (q := 2) (pc1 := 40) dX0_takeSnapshot_39 rfl rfl rfl ?_
    refine J_iconst (v := 1) (pc1 := 41) dX0_takeSnapshot_40 (by decide) rfl ?_
    refine J_aload_n (i := 1) (q := 1) (pc1 := 42) dX0_takeSnapshot_41 rfl rfl rfl ?_
    refine J_getI (T := TX4) (pc1 := 45) (eC11 hn1) rfl rfl inX4 9 (by decide) rfl flX0_122 rfl dX0_takeSnapshot_42 rfl ?_
    obtain ⟨μ4, hc3, h⟩ := gBp_s h
    refine J_callV (As := [.ref (ad 11 n1), .ref (ad 19 t2), .int 1, .int (μ1 11 n1 9)]) (ad := ad) (f := 6) (i := q0) (st := []) (st1 := []) (pc1 := 48) (kX0_answer l D tc sa ad nc hnc hI q0 hq0 n1 hn1 t2 ht2 1 (μ1 11 n1 9) μ1 μ4 hc3) wcX0_answer wlX0_254 (eC6 hq0) rfl rfl rfl ⟨rfl, rfl, Nat.le_of_ble_eq_true rfl, Nat.le_of_ble_eq_true rfl⟩ ⟨Nat.zero_le _, Nat.zero_le _⟩ (Nat.le_of_ble_eq_true rfl) dX0_takeSnapshot_45 rfl rfl ?_
    refine J_iconst (v := 0) (pc1 := 49) dX0_takeSnapshot_48 (by decide) rfl ?_
    cases h
    exact J_iret hr hlk dX0_takeSnapshot_49
  clear ej2
  refine J_icmp_le (tgt := 37) (pc1 := 11) dX0_takeSnapshot_8 (by decide) (fun q5 => ?_) rfl (fun q5 => ?_)
  · rw [if_pos q5] at h
    exact kj2 _ h
  · rw [if_neg q5] at h
    refine J_aload_n (i := 1) (q := 1) (pc1 := 12) dX0_takeSnapshot_11 rfl rfl rfl ?_
    refine J_getR (T := TX4) (f' := 12) (i' := n1) (pc1 := 15) (eC11 hn1) rfl rfl inX4 1 (by decide) rfl rfl flX0_113 rfl dX0_takeSnapshot_12 rfl ?_
    refine J_aload_n (i := 2) (q := 2) (pc1 := 16) dX0_takeSnapshot_15 rfl rfl rfl ?_
    obtain ⟨μ7, hc6, h⟩ := gBp_s h
    refine J_callV (As := [.ref (ad 19 t2)]) (ad := ad) (f := 12) (i := n1) (st := []) (st1 := []) (pc1 := 19) (kX1_install l D tc sa ad nc hnc hI n1 hn1 t2 ht2 μ μ7 hc6) wcX1_install wlX0_304 (eC12 hn1) rfl rfl rfl ⟨rfl, rfl, Nat.le_of_ble_eq_true rfl, Nat.le_of_ble_eq_true rfl⟩ ⟨Nat.zero_le _, Nat.zero_le _⟩ (Nat.le_of_ble_eq_true rfl) dX0_takeSnapshot_16 rfl rfl ?_
    refine J_aload_n (i := 1) (q := 1) (pc1 := 20) dX0_takeSnapshot_19 rfl rfl rfl ?_
    refine J_aload_n (i := 2) (q := 2) (pc1 := 21) dX0_takeSnapshot_20 rfl rfl rfl ?_
    refine J_getI (T := TX2) (pc1 := 24) (eC19 ht2) rfl rfl inX2 10 (by decide) rfl flX0_167 rfl dX0_takeSnapshot_21 rfl ?_
    refine J_putI (T := TX4) (pc1 := 27) (eC11 hn1) rfl rfl inX4 tyX4 tyX4_ok nmX4 9 (by decide) rfl (fun _ _ _ _ => gh11) flX0_122 rfl rfl rfl rfl dX0_takeSnapshot_24 rfl ?_
    obtain ⟨μ8, e9, h⟩ := gLet_s h
    rw [← e9]
    clear e9
    refine J_aload_n (i := 0) (q := 0) (pc1 := 28) dX0_takeSnapshot_27 rfl rfl rfl ?_
    refine J_dup (pc1 := 29) dX0_takeSnapshot_28 rfl rfl ?_
    refine J_getI (T := TX0) (pc1 := 32) (eC6 hq0) rfl rfl inX0 8 (by decide) rfl flX0_47 rfl dX0_takeSnapshot_29 rfl ?_
    refine J_iconst (v := 1) (pc1 := 33) dX0_takeSnapshot_32 (by decide) rfl ?_
    refine J_iadd (pc1 := 34) dX0_takeSnapshot_33 rfl ?_
    refine J_putI (T := TX0) (pc1 := 37) (eC6 hq0) rfl rfl inX0 tyX0 tyX0_ok nmX0 8 (by decide) rfl (fun _ _ _ _ => gh6) flX0_47 rfl rfl rfl rfl dX0_takeSnapshot_34 rfl ?_
    obtain ⟨μ10, e11, h⟩ := gLet_s h
    rw [← e11]
    clear e11
    exact kj2 _ h
def mX0_receive (nc : Nat) (q0 : Nat) (n1 : Nat) (t2 : Nat) (μ : gM) : Option (Int32 × gM) :=
  if (μ 11 n1 5) = 0 then
    gLet (α := gM) (w3 μ 9 q0 7 ((μ 9 q0 7) + 1)) fun μ52 =>
    some (0, μ52)
  else
    gJon (fun (μ2 : gM) =>
        if (μ2 19 t2 4) = 0 then
          gBd (mX0_takeRequest nc q0 n1 t2 μ2) fun r6 μ7 =>
          some (r6, μ7)
        else if (μ2 19 t2 4) = 1 then
          gBd (mX0_takeReply nc q0 n1 t2 μ2) fun r10 μ11 =>
          some (r10, μ11)
        else if (μ2 19 t2 4) = 2 then
          if (μ2 11 n1 7) ≤ (μ2 19 t2 7) then
            gBp (mX4_follow nc n1 μ2) fun μ15 =>
            gBp (mX0_resetTimer nc q0 n1 μ15) fun μ17 =>
            if (μ17 19 t2 4) = 2 then
              gBd (mX0_takeAppend nc q0 n1 t2 μ17) fun r23 μ24 =>
              some (r23, μ24)
            else
              gBd (mX0_takeSnapshot nc q0 n1 t2 μ17) fun r20 μ21 =>
              some (r20, μ21)
          else
            gBp (mX0_answer nc q0 n1 t2 0 0 μ2) fun μ26 =>
            some (0, μ26)
        else if (μ2 19 t2 4) = 3 then
          gBd (mX0_takeAnswer nc q0 n1 t2 μ2) fun r29 μ30 =>
          some (r29, μ30)
        else 
          if (μ2 11 n1 7) ≤ (μ2 19 t2 7) then
            gBp (mX4_follow nc n1 μ2) fun μ33 =>
            gBp (mX0_resetTimer nc q0 n1 μ33) fun μ35 =>
            if (μ35 19 t2 4) = 2 then
              gBd (mX0_takeAppend nc q0 n1 t2 μ35) fun r41 μ42 =>
              some (r41, μ42)
            else
              gBd (mX0_takeSnapshot nc q0 n1 t2 μ35) fun r38 μ39 =>
              some (r38, μ39)
          else
            gBp (mX0_answer nc q0 n1 t2 0 0 μ2) fun μ44 =>
            some (0, μ44)) fun j3 =>
    if (μ 19 t2 7) ≤ (μ 11 n1 7) then
      j3 μ
    else
      gLet (α := gM) (w3 μ 11 n1 7 (μ 19 t2 7)) fun μ46 =>
      gLet (α := gM) (w3 μ46 11 n1 8 (-1)) fun μ48 =>
      gBp (mX4_follow nc n1 μ48) fun μ51 =>
      j3 μ51
set_option maxHeartbeats 4000000 in
set_option maxRecDepth 100000 in
theorem kX0_receive (l : Launch) (D : va_G) (tc : Nat → ClassId) (sa : Nat → Nat) (ad : Nat → Nat → Nat) (nc : Nat) (hnc : 0 < nc ∧ nc ≤ 2) (hI : gI (gE_C nc) ad) (q0 : Nat) (hq0 : q0 < nc) (n1 : Nat) (hn1 : n1 < 5 * nc) (t2 : Nat) (ht2 : t2 < 42 * nc) (μ : gM) (r : Int32) (μ' : gM) (h : mX0_receive nc q0 n1 t2 μ = some (r, μ')) : gMet l yX0_receive cX0_receive 3 (some .int) ({ frames := 4, cells := 0, slots := 0, locals := 145 } : Room) D (gE_C nc) gkd_C tc ad (grh_C nc) sa [.ref (ad 6 q0), .ref (ad 11 n1), .ref (ad 19 t2)] μ (some (.int r)) μ' := by
  refine gMet_of hI ⟨by decide +kernel, Nat.le_of_ble_eq_true rfl⟩ (fun p e s m args below meth c sz hr hlk => ?_)
  unfold mX0_receive at h
  show JC p l e ({ frames := 4, cells := 0, slots := 0, locals := 145 } : Room) s m args below meth c cX0_receive 3 RX0 D tc sa ad nc sz (some (.int r)) μ' μ 0 [(0, .ref (ad 6 q0)), (1, .ref (ad 11 n1)), (2, .ref (ad 19 t2))] []
  refine J_aload_n (i := 1) (q := 1) (pc1 := 1) dX0_receive_0 rfl rfl rfl ?_
  refine J_getI (T := TX4) (pc1 := 4) (eC11 hn1) rfl rfl inX4 5 (by decide) rfl flX0_109 rfl dX0_receive_1 rfl ?_
  refine J_if_ne (tgt := 22) (pc1 := 7) dX0_receive_4 (by decide) (fun q1 => ?_) rfl (fun q1 => ?_)
  · rw [if_neg q1] at h
    refine J_aload_n (i := 2) (q := 2) (pc1 := 23) dX0_receive_22 rfl rfl rfl ?_
    refine J_getI (T := TX2) (pc1 := 26) (eC19 ht2) rfl rfl inX2 7 (by decide) rfl flX0_232 rfl dX0_receive_23 rfl ?_
    refine J_aload_n (i := 1) (q := 1) (pc1 := 27) dX0_receive_26 rfl rfl rfl ?_
    refine J_getI (T := TX4) (pc1 := 30) (eC11 hn1) rfl rfl inX4 7 (by decide) rfl flX0_129 rfl dX0_receive_27 rfl ?_
    obtain ⟨j3, ej3, h⟩ := gJon_s h
    have kj3 : ∀ (μ2 : gM), j3 μ2 = some (r, μ') → JC p l e ({ frames := 4, cells := 0, slots := 0, locals := 145 } : Room) s m args below meth c cX0_receive 3 RX0 D tc sa ad nc sz (some (.int r)) μ' μ2 50 [(0, .ref (ad 6 q0)), (1, .ref (ad 11 n1)), (2, .ref (ad 19 t2))] [] := by
      intro μ2 h
      rw [ej3] at h
      try dsimp only at h
      refine J_aload_n (i := 2) (q := 2) (pc1 := 51) dX0_receive_50 rfl rfl rfl ?_
      refine J_getI (T := TX2) (pc1 := 54) (eC19 ht2) rfl rfl inX2 4 (by decide) rfl flX0_229 rfl dX0_receive_51 rfl ?_
      by_cases q4 : (μ2 19 t2 4) = 0
      · rw [if_pos q4] at h
        refine J_swIn (v := 0) (off := 30) (tgt := 84) dX0_receive_54 q4 (by decide) ?_
        refine J_aload_n (i := 0) (q := 0) (pc1 := 85) dX0_receive_84 rfl rfl rfl ?_
        refine J_aload_n (i := 1) (q := 1) (pc1 := 86) dX0_receive_85 rfl rfl rfl ?_
        refine J_aload_n (i := 2) (q := 2) (pc1 := 87) dX0_receive_86 rfl rfl rfl ?_
        obtain ⟨r6, μ7, hc5, h⟩ := gBd_s h
        refine J_callV (As := [.ref (ad 11 n1), .ref (ad 19 t2)]) (ad := ad) (f := 6) (i := q0) (st := []) (st1 := [.int r6]) (pc1 := 90) (kX0_takeRequest l D tc sa ad nc hnc hI q0 hq0 n1 hn1 t2 ht2 μ2 r6 μ7 hc5) wcX0_takeRequest wlX0_245 (eC6 hq0) rfl rfl rfl ⟨rfl, rfl, Nat.le_of_ble_eq_true rfl, Nat.le_of_ble_eq_true rfl⟩ ⟨Nat.zero_le _, Nat.zero_le _⟩ (Nat.le_of_ble_eq_true rfl) dX0_receive_87 rfl rfl ?_
        cases h
        exact J_iret hr hlk dX0_receive_90
      rw [if_neg q4] at h
      by_cases q8 : (μ2 19 t2 4) = 1
      · rw [if_pos q8] at h
        refine J_swIn (v := 1) (off := 37) (tgt := 91) dX0_receive_54 q8 (by decide) ?_
        refine J_aload_n (i := 0) (q := 0) (pc1 := 92) dX0_receive_91 rfl rfl rfl ?_
        refine J_aload_n (i := 1) (q := 1) (pc1 := 93) dX0_receive_92 rfl rfl rfl ?_
        refine J_aload_n (i := 2) (q := 2) (pc1 := 94) dX0_receive_93 rfl rfl rfl ?_
        obtain ⟨r10, μ11, hc9, h⟩ := gBd_s h
        refine J_callV (As := [.ref (ad 11 n1), .ref (ad 19 t2)]) (ad := ad) (f := 6) (i := q0) (st := []) (st1 := [.int r10]) (pc1 := 97) (kX0_takeReply l D tc sa ad nc hnc hI q0 hq0 n1 hn1 t2 ht2 μ2 r10 μ11 hc9) wcX0_takeReply wlX0_248 (eC6 hq0) rfl rfl rfl ⟨rfl, rfl, Nat.le_of_ble_eq_true rfl, Nat.le_of_ble_eq_true rfl⟩ ⟨Nat.zero_le _, Nat.zero_le _⟩ (Nat.le_of_ble_eq_true rfl) dX0_receive_94 rfl rfl ?_
        cases h
        exact J_iret hr hlk dX0_receive_97
      rw [if_neg q8] at h
      by_cases q12 : (μ2 19 t2 4) = 2
      · rw [if_pos q12] at h
        refine J_swIn (v := 2) (off := 51) (tgt := 105) dX0_receive_54 q12 (by decide) ?_
        refine J_aload_n (i := 2) (q := 2) (pc1 := 106) dX0_receive_105 rfl rfl rfl ?_
        refine J_getI (T := TX2) (pc1 := 109) (eC19 ht2) rfl rfl inX2 7 (by decide) rfl flX0_232 rfl dX0_receive_106 rfl ?_
        refine J_aload_n (i := 1) (q := 1) (pc1 := 110) dX0_receive_109 rfl rfl rfl ?_
        refine J_getI (T := TX4) (pc1 := 113) (eC11 hn1) rfl rfl inX4 7 (by decide) rfl flX0_129 rfl dX0_receive_110 rfl ?_
        refine J_icmp_ge (tgt := 126) (pc1 := 116) dX0_receive_113 (by decide) (fun q13 => ?_) rfl (fun q13 => ?_)
        · rw [if_pos q13] at h
          refine J_aload_n (i := 1) (q := 1) (pc1 := 127) dX0_receive_126 rfl rfl rfl ?_
          obtain ⟨μ15, hc14, h⟩ := gBp_s h
          refine J_callV (As := []) (ad := ad) (f := 11) (i := n1) (st := []) (st1 := []) (pc1 := 130) (kX4_follow l D tc sa ad nc hnc hI n1 hn1 μ2 μ15 hc14) wcX4_follow wlX0_207 (eC11 hn1) rfl rfl rfl ⟨rfl, rfl, Nat.le_of_ble_eq_true rfl, Nat.le_of_ble_eq_true rfl⟩ ⟨Nat.zero_le _, Nat.zero_le _⟩ (Nat.le_of_ble_eq_true rfl) dX0_receive_127 rfl rfl ?_
          refine J_aload_n (i := 0) (q := 0) (pc1 := 131) dX0_receive_130 rfl rfl rfl ?_
          refine J_aload_n (i := 1) (q := 1) (pc1 := 132) dX0_receive_131 rfl rfl rfl ?_
          obtain ⟨μ17, hc16, h⟩ := gBp_s h
          refine J_callV (As := [.ref (ad 11 n1)]) (ad := ad) (f := 6) (i := q0) (st := []) (st1 := []) (pc1 := 135) (kX0_resetTimer l D tc sa ad nc hnc hI q0 hq0 n1 hn1 μ15 μ17 hc16) wcX0_resetTimer wlX0_55 (eC6 hq0) rfl rfl rfl ⟨rfl, rfl, Nat.le_of_ble_eq_true rfl, Nat.le_of_ble_eq_true rfl⟩ ⟨Nat.zero_le _, Nat.zero_le _⟩ (Nat.le_of_ble_eq_true rfl) dX0_receive_132 rfl rfl ?_
          refine J_aload_n (i := 2) (q := 2) (pc1 := 136) dX0_receive_135 rfl rfl rfl ?_
          refine J_getI (T := TX2) (pc1 := 139) (eC19 ht2) rfl rfl inX2 4 (by decide) rfl flX0_229 rfl dX0_receive_136 rfl ?_
          refine J_iconst (v := 2) (pc1 := 140) dX0_receive_139 (by decide) rfl ?_
          refine J_icmp_ne (tgt := 152) (pc1 := 143) dX0_receive_140 (by decide) (fun q18 => ?_) rfl (fun q18 => ?_)
          · rw [if_neg q18] at h
            refine J_aload_n (i := 0) (q := 0) (pc1 := 153) dX0_receive_152 rfl rfl rfl ?_
            refine J_aload_n (i := 1) (q := 1) (pc1 := 154) dX0_receive_153 rfl rfl rfl ?_
            refine J_aload_n (i := 2) (q := 2) (pc1 := 155) dX0_receive_154 rfl rfl rfl ?_
            obtain ⟨r20, μ21, hc19, h⟩ := gBd_s h
            refine J_callV (As := [.ref (ad 11 n1), .ref (ad 19 t2)]) (ad := ad) (f := 6) (i := q0) (st := []) (st1 := [.int r20]) (pc1 := 158) (kX0_takeSnapshot l D tc sa ad nc hnc hI q0 hq0 n1 hn1 t2 ht2 μ17 r20 μ21 hc19) wcX0_takeSnapshot wlX0_261 (eC6 hq0) rfl rfl rfl ⟨rfl, rfl, Nat.le_of_ble_eq_true rfl, Nat.le_of_ble_eq_true rfl⟩ ⟨Nat.zero_le _, Nat.zero_le _⟩ (Nat.le_of_ble_eq_true rfl) dX0_receive_155 rfl rfl ?_
            cases h
            exact J_iret hr hlk dX0_receive_158
          · rw [if_pos q18] at h
            refine J_aload_n (i := 0) (q := 0) (pc1 := 144) dX0_receive_143 rfl rfl rfl ?_
            refine J_aload_n (i := 1) (q := 1) (pc1 := 145) dX0_receive_144 rfl rfl rfl ?_
            refine J_aload_n (i := 2) (q := 2) (pc1 := 146) dX0_receive_145 rfl rfl rfl ?_
            obtain ⟨r23, μ24, hc22, h⟩ := gBd_s h
            refine J_callV (As := [.ref (ad 11 n1), .ref (ad 19 t2)]) (ad := ad) (f := 6) (i := q0) (st := []) (st1 := [.int r23]) (pc1 := 149) (kX0_takeAppend l D tc sa ad nc hnc hI q0 hq0 n1 hn1 t2 ht2 μ17 r23 μ24 hc22) wcX0_takeAppend wlX0_258 (eC6 hq0) rfl rfl rfl ⟨rfl, rfl, Nat.le_of_ble_eq_true rfl, Nat.le_of_ble_eq_true rfl⟩ ⟨Nat.zero_le _, Nat.zero_le _⟩ (Nat.le_of_ble_eq_true rfl) dX0_receive_146 rfl rfl ?_
            refine J_goto (tgt := 158) dX0_receive_149 (by decide) ?_
            cases h
            exact J_iret hr hlk dX0_receive_158
        · rw [if_neg q13] at h
          refine J_aload_n (i := 0) (q := 0) (pc1 := 117) dX0_receive_116 rfl rfl rfl ?_
          refine J_aload_n (i := 1) (q := 1) (pc1 := 118) dX0_receive_117 rfl rfl rfl ?_
          refine J_aload_n (i := 2) (q := 2) (pc1 := 119) dX0_receive_118 rfl rfl rfl ?_
          refine J_iconst (v := 0) (pc1 := 120) dX0_receive_119 (by decide) rfl ?_
          refine J_iconst (v := 0) (pc1 := 121) dX0_receive_120 (by decide) rfl ?_
          obtain ⟨μ26, hc25, h⟩ := gBp_s h
          refine J_callV (As := [.ref (ad 11 n1), .ref (ad 19 t2), .int 0, .int 0]) (ad := ad) (f := 6) (i := q0) (st := []) (st1 := []) (pc1 := 124) (kX0_answer l D tc sa ad nc hnc hI q0 hq0 n1 hn1 t2 ht2 0 0 μ2 μ26 hc25) wcX0_answer wlX0_254 (eC6 hq0) rfl rfl rfl ⟨rfl, rfl, Nat.le_of_ble_eq_true rfl, Nat.le_of_ble_eq_true rfl⟩ ⟨Nat.zero_le _, Nat.zero_le _⟩ (Nat.le_of_ble_eq_true rfl) dX0_receive_121 rfl rfl ?_
          refine J_iconst (v := 0) (pc1 := 125) dX0_receive_124 (by decide) rfl ?_
          cases h
          exact J_iret hr hlk dX0_receive_125
      rw [if_neg q12] at h
      by_cases q27 : (μ2 19 t2 4) = 3
      · rw [if_pos q27] at h
        refine J_swIn (v := 3) (off := 44) (tgt := 98) dX0_receive_54 q27 (by decide) ?_
        refine J_aload_n (i := 0) (q := 0) (pc1 := 99) dX0_receive_98 rfl rfl rfl ?_
        refine J_aload_n (i := 1) (q := 1) (pc1 := 100) dX0_receive_99 rfl rfl rfl ?_
        refine J_aload_n (i := 2) (q := 2) (pc1 := 101) dX0_receive_100 rfl rfl rfl ?_
        obtain ⟨r29, μ30, hc28, h⟩ := gBd_s h
        refine J_callV (As := [.ref (ad 11 n1), .ref (ad 19 t2)]) (ad := ad) (f := 6) (i := q0) (st := []) (st1 := [.int r29]) (pc1 := 104) (kX0_takeAnswer l D tc sa ad nc hnc hI q0 hq0 n1 hn1 t2 ht2 μ2 r29 μ30 hc28) wcX0_takeAnswer wlX0_251 (eC6 hq0) rfl rfl rfl ⟨rfl, rfl, Nat.le_of_ble_eq_true rfl, Nat.le_of_ble_eq_true rfl⟩ ⟨Nat.zero_le _, Nat.zero_le _⟩ (Nat.le_of_ble_eq_true rfl) dX0_receive_101 rfl rfl ?_
        cases h
        exact J_iret hr hlk dX0_receive_104
      rw [if_neg q27] at h
      refine J_swOut (tgt := 105) dX0_receive_54 (by have := i32_ne (k := 0) q4 (by decide); have := i32_ne (k := 1) q8 (by decide); have := i32_ne (k := 2) q12 (by decide); have := i32_ne (k := 3) q27 (by decide); omega) (by decide) ?_
      refine J_aload_n (i := 2) (q := 2) (pc1 := 106) dX0_receive_105 rfl rfl rfl ?_
      refine J_getI (T := TX2) (pc1 := 109) (eC19 ht2) rfl rfl inX2 7 (by decide) rfl flX0_232 rfl dX0_receive_106 rfl ?_
      refine J_aload_n (i := 1) (q := 1) (pc1 := 110) dX0_receive_109 rfl rfl rfl ?_
      refine J_getI (T := TX4) (pc1 := 113) (eC11 hn1) rfl rfl inX4 7 (by decide) rfl flX0_129 rfl dX0_receive_110 rfl ?_
      refine J_icmp_ge (tgt := 126) (pc1 := 116) dX0_receive_113 (by decide) (fun q31 => ?_) rfl (fun q31 => ?_)
      · rw [if_pos q31] at h
        refine J_aload_n (i := 1) (q := 1) (pc1 := 127) dX0_receive_126 rfl rfl rfl ?_
        obtain ⟨μ33, hc32, h⟩ := gBp_s h
        refine J_callV (As := []) (ad := ad) (f := 11) (i := n1) (st := []) (st1 := []) (pc1 := 130) (kX4_follow l D tc sa ad nc hnc hI n1 hn1 μ2 μ33 hc32) wcX4_follow wlX0_207 (eC11 hn1) rfl rfl rfl ⟨rfl, rfl, Nat.le_of_ble_eq_true rfl, Nat.le_of_ble_eq_true rfl⟩ ⟨Nat.zero_le _, Nat.zero_le _⟩ (Nat.le_of_ble_eq_true rfl) dX0_receive_127 rfl rfl ?_
        refine J_aload_n (i := 0) (q := 0) (pc1 := 131) dX0_receive_130 rfl rfl rfl ?_
        refine J_aload_n (i := 1) (q := 1) (pc1 := 132) dX0_receive_131 rfl rfl rfl ?_
        obtain ⟨μ35, hc34, h⟩ := gBp_s h
        refine J_callV (As := [.ref (ad 11 n1)]) (ad := ad) (f := 6) (i := q0) (st := []) (st1 := []) (pc1 := 135) (kX0_resetTimer l D tc sa ad nc hnc hI q0 hq0 n1 hn1 μ33 μ35 hc34) wcX0_resetTimer wlX0_55 (eC6 hq0) rfl rfl rfl ⟨rfl, rfl, Nat.le_of_ble_eq_true rfl, Nat.le_of_ble_eq_true rfl⟩ ⟨Nat.zero_le _, Nat.zero_le _⟩ (Nat.le_of_ble_eq_true rfl) dX0_receive_132 rfl rfl ?_
        refine J_aload_n (i := 2) (q := 2) (pc1 := 136) dX0_receive_135 rfl rfl rfl ?_
        refine J_getI (T := TX2) (pc1 := 139) (eC19 ht2) rfl rfl inX2 4 (by decide) rfl flX0_229 rfl dX0_receive_136 rfl ?_
        refine J_iconst (v := 2) (pc1 := 140) dX0_receive_139 (by decide) rfl ?_
        refine J_icmp_ne (tgt := 152) (pc1 := 143) dX0_receive_140 (by decide) (fun q36 => ?_) rfl (fun q36 => ?_)
        · rw [if_neg q36] at h
          refine J_aload_n (i := 0) (q := 0) (pc1 := 153) dX0_receive_152 rfl rfl rfl ?_
          refine J_aload_n (i := 1) (q := 1) (pc1 := 154) dX0_receive_153 rfl rfl rfl ?_
          refine J_aload_n (i := 2) (q := 2) (pc1 := 155) dX0_receive_154 rfl rfl rfl ?_
          obtain ⟨r38, μ39, hc37, h⟩ := gBd_s h
          refine J_callV (As := [.ref (ad 11 n1), .ref (ad 19 t2)]) (ad := ad) (f := 6) (i := q0) (st := []) (st1 := [.int r38]) (pc1 := 158) (kX0_takeSnapshot l D tc sa ad nc hnc hI q0 hq0 n1 hn1 t2 ht2 μ35 r38 μ39 hc37) wcX0_takeSnapshot wlX0_261 (eC6 hq0) rfl rfl rfl ⟨rfl, rfl, Nat.le_of_ble_eq_true rfl, Nat.le_of_ble_eq_true rfl⟩ ⟨Nat.zero_le _, Nat.zero_le _⟩ (Nat.le_of_ble_eq_true rfl) dX0_receive_155 rfl rfl ?_
          cases h
          exact J_iret hr hlk dX0_receive_158
        · rw [if_pos q36] at h
          refine J_aload_n (i := 0) (q := 0) (pc1 := 144) dX0_receive_143 rfl rfl rfl ?_
          refine J_aload_n (i := 1) (q := 1) (pc1 := 145) dX0_receive_144 rfl rfl rfl ?_
          refine J_aload_n (i := 2) (q := 2) (pc1 := 146) dX0_receive_145 rfl rfl rfl ?_
          obtain ⟨r41, μ42, hc40, h⟩ := gBd_s h
          refine J_callV (As := [.ref (ad 11 n1), .ref (ad 19 t2)]) (ad := ad) (f := 6) (i := q0) (st := []) (st1 := [.int r41]) (pc1 := 149) (kX0_takeAppend l D tc sa ad nc hnc hI q0 hq0 n1 hn1 t2 ht2 μ35 r41 μ42 hc40) wcX0_takeAppend wlX0_258 (eC6 hq0) rfl rfl rfl ⟨rfl, rfl, Nat.le_of_ble_eq_true rfl, Nat.le_of_ble_eq_true rfl⟩ ⟨Nat.zero_le _, Nat.zero_le _⟩ (Nat.le_of_ble_eq_true rfl) dX0_receive_146 rfl rfl ?_
          refine J_goto (tgt := 158) dX0_receive_149 (by decide) ?_
          cases h
          exact J_iret hr hlk dX0_receive_158
      · rw [if_neg q31] at h
        refine J_aload_n (i := 0) (q := 0) (pc1 := 117) dX0_receive_116 rfl rfl rfl ?_
        refine J_aload_n (i := 1) (q := 1) (pc1 := 118) dX0_receive_117 rfl rfl rfl ?_
        refine J_aload_n (i := 2) (q := 2) (pc1 := 119) dX0_receive_118 rfl rfl rfl ?_
        refine J_iconst (v := 0) (pc1 := 120) dX0_receive_119 (by decide) rfl ?_
        refine J_iconst (v := 0) (pc1 := 121) dX0_receive_120 (by decide) rfl ?_
        obtain ⟨μ44, hc43, h⟩ := gBp_s h
        refine J_callV (As := [.ref (ad 11 n1), .ref (ad 19 t2), .int 0, .int 0]) (ad := ad) (f := 6) (i := q0) (st := []) (st1 := []) (pc1 := 124) (kX0_answer l D tc sa ad nc hnc hI q0 hq0 n1 hn1 t2 ht2 0 0 μ2 μ44 hc43) wcX0_answer wlX0_254 (eC6 hq0) rfl rfl rfl ⟨rfl, rfl, Nat.le_of_ble_eq_true rfl, Nat.le_of_ble_eq_true rfl⟩ ⟨Nat.zero_le _, Nat.zero_le _⟩ (Nat.le_of_ble_eq_true rfl) dX0_receive_121 rfl rfl ?_
        refine J_iconst (v := 0) (pc1 := 125) dX0_receive_124 (by decide) rfl ?_
        cases h
        exact J_iret hr hlk dX0_receive_125
    clear ej3
    refine J_icmp_le (tgt := 50) (pc1 := 33) dX0_receive_30 (by decide) (fun q45 => ?_) rfl (fun q45 => ?_)
    · rw [if_pos q45] at h
      exact kj3 _ h
    · rw [if_neg q45] at h
      refine J_aload_n (i := 1) (q := 1) (pc1 := 34) dX0_receive_33 rfl rfl rfl ?_
      refine J_aload_n (i := 2) (q := 2) (pc1 := 35) dX0_receive_34 rfl rfl rfl ?_
      refine J_getI (T := TX2) (pc1 := 38) (eC19 ht2) rfl rfl inX2 7 (by decide) rfl flX0_232 rfl dX0_receive_35 rfl ?_
      refine J_putI (T := TX4) (pc1 := 41) (eC11 hn1) rfl rfl inX4 tyX4 tyX4_ok nmX4 7 (by decide) rfl (fun _ _ _ _ => gh11) flX0_129 rfl rfl rfl rfl dX0_receive_38 rfl ?_
      obtain ⟨μ46, e47, h⟩ := gLet_s h
      rw [← e47]
      clear e47
      refine J_aload_n (i := 1) (q := 1) (pc1 := 42) dX0_receive_41 rfl rfl rfl ?_
      refine J_iconst (v := (-1)) (pc1 := 43) dX0_receive_42 (by decide) rfl ?_
      refine J_putI (T := TX4) (pc1 := 46) (eC11 hn1) rfl rfl inX4 tyX4 tyX4_ok nmX4 8 (by decide) rfl (fun _ _ _ _ => gh11) flX0_155 rfl rfl rfl rfl dX0_receive_43 rfl ?_
      obtain ⟨μ48, e49, h⟩ := gLet_s h
      rw [← e49]
      clear e49
      refine J_aload_n (i := 1) (q := 1) (pc1 := 47) dX0_receive_46 rfl rfl rfl ?_
      obtain ⟨μ51, hc50, h⟩ := gBp_s h
      refine J_callV (As := []) (ad := ad) (f := 11) (i := n1) (st := []) (st1 := []) (pc1 := 50) (kX4_follow l D tc sa ad nc hnc hI n1 hn1 μ48 μ51 hc50) wcX4_follow wlX0_207 (eC11 hn1) rfl rfl rfl ⟨rfl, rfl, Nat.le_of_ble_eq_true rfl, Nat.le_of_ble_eq_true rfl⟩ ⟨Nat.zero_le _, Nat.zero_le _⟩ (Nat.le_of_ble_eq_true rfl) dX0_receive_47 rfl rfl ?_
      exact kj3 _ h
  · rw [if_pos q1] at h
    refine J_aload_n (i := 0) (q := 0) (pc1 := 8) dX0_receive_7 rfl rfl rfl ?_
    refine J_getR (T := TX0) (f' := 9) (i' := q0) (pc1 := 11) (eC6 hq0) rfl rfl inX0 1 (by decide) rfl rfl flX0_23 rfl dX0_receive_8 rfl ?_
    refine J_dup (pc1 := 12) dX0_receive_11 rfl rfl ?_
    refine J_getI (T := TX3) (pc1 := 15) (eC9 hq0) rfl rfl inX3 7 (by decide) rfl flX0_242 rfl dX0_receive_12 rfl ?_
    refine J_iconst (v := 1) (pc1 := 16) dX0_receive_15 (by decide) rfl ?_
    refine J_iadd (pc1 := 17) dX0_receive_16 rfl ?_
    refine J_putI (T := TX3) (pc1 := 20) (eC9 hq0) rfl rfl inX3 tyX3 tyX3_ok nmX3 7 (by decide) rfl (gHrl9 (by decide) (by decide)) flX0_242 rfl rfl rfl rfl dX0_receive_17 rfl ?_
    obtain ⟨μ52, e53, h⟩ := gLet_s h
    rw [← e53]
    clear e53
    refine J_iconst (v := 0) (pc1 := 21) dX0_receive_20 (by decide) rfl ?_
    cases h
    exact J_iret hr hlk dX0_receive_21
def mX0_becomeLeader (nc : Nat) (q0 : Nat) (n1 : Nat) (μ : gM) : Option gM :=
  gLet (α := gM) (w3 μ 6 q0 6 ((μ 6 q0 6) + 1)) fun μ1 =>
  gJon (fun (μ3 : gM) =>
      gBp (mX4_lead nc n1 μ3) fun μ6 =>
      gBd (mX1_append nc n1 (μ6 11 n1 7) 3 0 μ6) fun r8 μ9 =>
      some μ9) fun j4 =>
  if (μ1 11 n1 7) < 0 then
    j4 μ1
  else
    if 100 ≤ (μ1 11 n1 7) then
      j4 μ1
    else
      gChk (inb (μ1 11 n1 7) 100) <|
      gLet (α := gM) (w3 μ1 8 q0 ((μ1 11 n1 7).toNatClampNeg) (μ1 11 n1 0)) fun μ13 =>
      j4 μ13
set_option maxHeartbeats 4000000 in
set_option maxRecDepth 100000 in
theorem kX0_becomeLeader (l : Launch) (D : va_G) (tc : Nat → ClassId) (sa : Nat → Nat) (ad : Nat → Nat → Nat) (nc : Nat) (hnc : 0 < nc ∧ nc ≤ 2) (hI : gI (gE_C nc) ad) (q0 : Nat) (hq0 : q0 < nc) (n1 : Nat) (hn1 : n1 < 5 * nc) (μ : gM) (μ' : gM) (h : mX0_becomeLeader nc q0 n1 μ = some μ') : gMet l yX0_becomeLeader cX0_becomeLeader 2 (none) ({ frames := 3, cells := 0, slots := 0, locals := 65 } : Room) D (gE_C nc) gkd_C tc ad (grh_C nc) sa [.ref (ad 6 q0), .ref (ad 11 n1)] μ (none) μ' := by
  refine gMet_of hI ⟨by decide +kernel, Nat.le_of_ble_eq_true rfl⟩ (fun p e s m args below meth c sz hr hlk => ?_)
  unfold mX0_becomeLeader at h
  show JC p l e ({ frames := 3, cells := 0, slots := 0, locals := 65 } : Room) s m args below meth c cX0_becomeLeader 2 RX0 D tc sa ad nc sz (none) μ' μ 0 [(0, .ref (ad 6 q0)), (1, .ref (ad 11 n1))] []
  refine J_aload_n (i := 0) (q := 0) (pc1 := 1) dX0_becomeLeader_0 rfl rfl rfl ?_
  refine J_dup (pc1 := 2) dX0_becomeLeader_1 rfl rfl ?_
  refine J_getI (T := TX0) (pc1 := 5) (eC6 hq0) rfl rfl inX0 6 (by decide) rfl flX0_41 rfl dX0_becomeLeader_2 rfl ?_
  refine J_iconst (v := 1) (pc1 := 6) dX0_becomeLeader_5 (by decide) rfl ?_
  refine J_iadd (pc1 := 7) dX0_becomeLeader_6 rfl ?_
  refine J_putI (T := TX0) (pc1 := 10) (eC6 hq0) rfl rfl inX0 tyX0 tyX0_ok nmX0 6 (by decide) rfl (fun _ _ _ _ => gh6) flX0_41 rfl rfl rfl rfl dX0_becomeLeader_7 rfl ?_
  obtain ⟨μ1, e2, h⟩ := gLet_s h
  rw [← e2]
  clear e2
  refine J_aload_n (i := 1) (q := 1) (pc1 := 11) dX0_becomeLeader_10 rfl rfl rfl ?_
  refine J_getI (T := TX4) (pc1 := 14) (eC11 hn1) rfl rfl inX4 7 (by decide) rfl flX0_129 rfl dX0_becomeLeader_11 rfl ?_
  obtain ⟨j4, ej4, h⟩ := gJon_s h
  have kj4 : ∀ (μ3 : gM), j4 μ3 = some μ' → JC p l e ({ frames := 3, cells := 0, slots := 0, locals := 65 } : Room) s m args below meth c cX0_becomeLeader 2 RX0 D tc sa ad nc sz (none) μ' μ3 39 [(1, .ref (ad 11 n1))] [] := by
    intro μ3 h
    rw [ej4] at h
    try dsimp only at h
    refine J_aload_n (i := 1) (q := 0) (pc1 := 40) dX0_becomeLeader_39 rfl rfl rfl ?_
    obtain ⟨μ6, hc5, h⟩ := gBp_s h
    refine J_callV (As := []) (ad := ad) (f := 11) (i := n1) (st := []) (st1 := []) (pc1 := 43) (kX4_lead l D tc sa ad nc hnc hI n1 hn1 μ3 μ6 hc5) wcX4_lead wlX0_188 (eC11 hn1) rfl rfl rfl ⟨rfl, rfl, Nat.le_of_ble_eq_true rfl, Nat.le_of_ble_eq_true rfl⟩ ⟨Nat.zero_le _, Nat.zero_le _⟩ (Nat.le_of_ble_eq_true rfl) dX0_becomeLeader_40 rfl rfl ?_
    refine J_aload_n (i := 1) (q := 0) (pc1 := 44) dX0_becomeLeader_43 rfl rfl rfl ?_
    refine J_getR (T := TX4) (f' := 12) (i' := n1) (pc1 := 47) (eC11 hn1) rfl rfl inX4 1 (by decide) rfl rfl flX0_113 rfl dX0_becomeLeader_44 rfl ?_
    refine J_aload_n (i := 1) (q := 0) (pc1 := 48) dX0_becomeLeader_47 rfl rfl rfl ?_
    refine J_getI (T := TX4) (pc1 := 51) (eC11 hn1) rfl rfl inX4 7 (by decide) rfl flX0_129 rfl dX0_becomeLeader_48 rfl ?_
    refine J_iconst (v := 3) (pc1 := 52) dX0_becomeLeader_51 (by decide) rfl ?_
    refine J_iconst (v := 0) (pc1 := 53) dX0_becomeLeader_52 (by decide) rfl ?_
    obtain ⟨r8, μ9, hc7, h⟩ := gBd_s h
    refine J_callV (As := [.int (μ6 11 n1 7), .int 3, .int 0]) (ad := ad) (f := 12) (i := n1) (st := []) (st1 := [.int r8]) (pc1 := 56) (kX1_append l D tc sa ad nc hnc hI n1 hn1 (μ6 11 n1 7) 3 0 μ6 r8 μ9 hc7) wcX1_append wlX0_132 (eC12 hn1) rfl rfl rfl ⟨rfl, rfl, Nat.le_of_ble_eq_true rfl, Nat.le_of_ble_eq_true rfl⟩ ⟨Nat.zero_le _, Nat.zero_le _⟩ (Nat.le_of_ble_eq_true rfl) dX0_becomeLeader_53 rfl rfl ?_
    refine J_pop (pc1 := 57) dX0_becomeLeader_56 rfl rfl ?_
    cases h
    exact J_vret hr hlk dX0_becomeLeader_57
  clear ej4
  refine J_if_lt (tgt := 39) (pc1 := 17) dX0_becomeLeader_14 (by decide) (fun q10 => ?_) rfl (fun q10 => ?_)
  · rw [if_pos q10] at h
    refine J_sub [1] (lv1 := [(1, .ref (ad 11 n1))]) rfl ?_
    exact kj4 _ h
  · rw [if_neg q10] at h
    refine J_aload_n (i := 1) (q := 1) (pc1 := 18) dX0_becomeLeader_17 rfl rfl rfl ?_
    refine J_getI (T := TX4) (pc1 := 21) (eC11 hn1) rfl rfl inX4 7 (by decide) rfl flX0_129 rfl dX0_becomeLeader_18 rfl ?_
    refine J_bipush (v := 100) (pc1 := 23) dX0_becomeLeader_21 (by decide) rfl ?_
    refine J_icmp_ge (tgt := 39) (pc1 := 26) dX0_becomeLeader_23 (by decide) (fun q11 => ?_) rfl (fun q11 => ?_)
    · rw [if_pos q11] at h
      refine J_sub [1] (lv1 := [(1, .ref (ad 11 n1))]) rfl ?_
      exact kj4 _ h
    · rw [if_neg q11] at h
      refine J_aload_n (i := 0) (q := 0) (pc1 := 27) dX0_becomeLeader_26 rfl rfl rfl ?_
      refine J_getR (T := TX0) (f' := 8) (i' := q0) (pc1 := 30) (eC6 hq0) rfl rfl inX0 2 (by decide) rfl rfl flX0_27 rfl dX0_becomeLeader_27 rfl ?_
      refine J_aload_n (i := 1) (q := 1) (pc1 := 31) dX0_becomeLeader_30 rfl rfl rfl ?_
      refine J_getI (T := TX4) (pc1 := 34) (eC11 hn1) rfl rfl inX4 7 (by decide) rfl flX0_129 rfl dX0_becomeLeader_31 rfl ?_
      refine J_aload_n (i := 1) (q := 1) (pc1 := 35) dX0_becomeLeader_34 rfl rfl rfl ?_
      refine J_getI (T := TX4) (pc1 := 38) (eC11 hn1) rfl rfl inX4 0 (by decide) rfl flX0_138 rfl dX0_becomeLeader_35 rfl ?_
      obtain ⟨h12, h⟩ := gChk_s h
      refine J_iast (ix := ((μ1 11 n1 7).toNatClampNeg)) (pc1 := 39) rfl (eC8 hq0) rfl h12 dX0_becomeLeader_38 rfl ?_
      obtain ⟨μ13, e14, h⟩ := gLet_s h
      rw [← e14]
      clear e14
      refine J_sub [1] (lv1 := [(1, .ref (ad 11 n1))]) rfl ?_
      exact kj4 _ h
def mX0_commit (nc : Nat) (q0 : Nat) (n1 : Nat) (μ : gM) : Option gM :=
  gBp (mX1_lastIndex nc n1 μ) fun r2 =>
  gJon (fun (μ3 : gM) =>
      gBp (mX4_isConfigurationCommitted nc n1 μ3) fun r6 =>
      if r6 = 0 then
        some μ3
      else
        gBp (mX1_isJoint nc n1 μ3) fun r9 =>
        if r9 = 0 then
          gBp (mX4_isMember nc n1 μ3) fun r12 =>
          if r12 = 0 then
            gBp (mX4_follow nc n1 μ3) fun μ15 =>
            gBp (mX0_resetTimer nc q0 n1 μ15) fun μ17 =>
            some μ17
          else
            some μ3
        else
          gBd (mX1_append nc n1 (μ3 11 n1 7) 2 (μ3 12 n1 11) μ3) fun r19 μ20 =>
          some μ20) fun j4 =>
  gFx2 (fun rec23 (x21 : Int32) (μ22 : gM) =>
      if x21 ≤ (μ22 11 n1 9) then
        j4 μ22
      else
        gBp (mX1_termAt nc n1 x21 μ22) fun r26 =>
        if r26 = (μ22 11 n1 7) then
          gBp (mX4_holders nc n1 x21 μ22) fun r29 =>
          gBp (mX1_isQuorum nc n1 r29 μ22) fun r31 =>
          if r31 = 0 then
            rec23 (x21 + (-1)) μ22
          else
            gLet (α := gM) (w3 μ22 11 n1 9 x21) fun μ33 =>
            rec23 (x21 + (-1)) μ33
        else
          rec23 (x21 + (-1)) μ22) 1000000 r2 μ
set_option maxHeartbeats 4000000 in
set_option maxRecDepth 100000 in
theorem kX0_commit (l : Launch) (D : va_G) (tc : Nat → ClassId) (sa : Nat → Nat) (ad : Nat → Nat → Nat) (nc : Nat) (hnc : 0 < nc ∧ nc ≤ 2) (hI : gI (gE_C nc) ad) (q0 : Nat) (hq0 : q0 < nc) (n1 : Nat) (hn1 : n1 < 5 * nc) (μ : gM) (μ' : gM) (h : mX0_commit nc q0 n1 μ = some μ') : gMet l yX0_commit cX0_commit 4 (none) ({ frames := 3, cells := 0, slots := 0, locals := 65 } : Room) D (gE_C nc) gkd_C tc ad (grh_C nc) sa [.ref (ad 6 q0), .ref (ad 11 n1)] μ (none) μ' := by
  refine gMet_of hI ⟨by decide +kernel, Nat.le_of_ble_eq_true rfl⟩ (fun p e s m args below meth c sz hr hlk => ?_)
  unfold mX0_commit at h
  show JC p l e ({ frames := 3, cells := 0, slots := 0, locals := 65 } : Room) s m args below meth c cX0_commit 4 RX0 D tc sa ad nc sz (none) μ' μ 0 [(0, .ref (ad 6 q0)), (1, .ref (ad 11 n1))] []
  refine J_aload_n (i := 1) (q := 1) (pc1 := 1) dX0_commit_0 rfl rfl rfl ?_
  refine J_getR (T := TX4) (f' := 12) (i' := n1) (pc1 := 4) (eC11 hn1) rfl rfl inX4 1 (by decide) rfl rfl flX0_113 rfl dX0_commit_1 rfl ?_
  refine J_astore_n (i := 2) (lv1 := [(2, .ref (ad 12 n1)), (0, .ref (ad 6 q0)), (1, .ref (ad 11 n1))]) (pc1 := 5) dX0_commit_4 rfl (by decide) rfl rfl ?_
  refine J_aload_n (i := 2) (q := 0) (pc1 := 6) dX0_commit_5 rfl rfl rfl ?_
  obtain ⟨r2, hc1, h⟩ := gBp_s h
  refine J_callV (As := []) (ad := ad) (f := 12) (i := n1) (st := []) (st1 := [.int r2]) (pc1 := 9) (kX1_lastIndex l D tc sa ad nc hnc hI n1 hn1 μ r2 hc1) wcX1_lastIndex wlX0_125 (eC12 hn1) rfl rfl rfl ⟨rfl, rfl, Nat.le_of_ble_eq_true rfl, Nat.le_of_ble_eq_true rfl⟩ ⟨Nat.zero_le _, Nat.zero_le _⟩ (Nat.le_of_ble_eq_true rfl) dX0_commit_6 rfl rfl ?_
  refine J_istore_n (i := 3) (lv1 := [(3, .int r2), (2, .ref (ad 12 n1)), (0, .ref (ad 6 q0)), (1, .ref (ad 11 n1))]) (pc1 := 10) dX0_commit_9 rfl (by decide) rfl rfl ?_
  obtain ⟨j4, ej4, h⟩ := gJon_s h
  have kj4 : ∀ (μ3 : gM), j4 μ3 = some μ' → JC p l e ({ frames := 3, cells := 0, slots := 0, locals := 65 } : Room) s m args below meth c cX0_commit 4 RX0 D tc sa ad nc sz (none) μ' μ3 53 [(0, .ref (ad 6 q0)), (1, .ref (ad 11 n1)), (2, .ref (ad 12 n1))] [] := by
    intro μ3 h
    rw [ej4] at h
    try dsimp only at h
    refine J_aload_n (i := 1) (q := 1) (pc1 := 54) dX0_commit_53 rfl rfl rfl ?_
    obtain ⟨r6, hc5, h⟩ := gBp_s h
    refine J_callV (As := []) (ad := ad) (f := 11) (i := n1) (st := []) (st1 := [.int r6]) (pc1 := 57) (kX4_isConfigurationCommitted l D tc sa ad nc hnc hI n1 hn1 μ3 r6 hc5) wcX4_isConfigurationCommitted wlX0_198 (eC11 hn1) rfl rfl rfl ⟨rfl, rfl, Nat.le_of_ble_eq_true rfl, Nat.le_of_ble_eq_true rfl⟩ ⟨Nat.zero_le _, Nat.zero_le _⟩ (Nat.le_of_ble_eq_true rfl) dX0_commit_54 rfl rfl ?_
    refine J_if_ne (tgt := 61) (pc1 := 60) dX0_commit_57 (by decide) (fun q7 => ?_) rfl (fun q7 => ?_)
    · rw [if_neg q7] at h
      refine J_aload_n (i := 2) (q := 2) (pc1 := 62) dX0_commit_61 rfl rfl rfl ?_
      obtain ⟨r9, hc8, h⟩ := gBp_s h
      refine J_callV (As := []) (ad := ad) (f := 12) (i := n1) (st := []) (st1 := [.int r9]) (pc1 := 65) (kX1_isJoint l D tc sa ad nc hnc hI n1 hn1 μ3 r9 hc8) wcX1_isJoint wlX0_201 (eC12 hn1) rfl rfl rfl ⟨rfl, rfl, Nat.le_of_ble_eq_true rfl, Nat.le_of_ble_eq_true rfl⟩ ⟨Nat.zero_le _, Nat.zero_le _⟩ (Nat.le_of_ble_eq_true rfl) dX0_commit_62 rfl rfl ?_
      refine J_if_eq (tgt := 85) (pc1 := 68) dX0_commit_65 (by decide) (fun q10 => ?_) rfl (fun q10 => ?_)
      · rw [if_pos q10] at h
        refine J_aload_n (i := 1) (q := 1) (pc1 := 86) dX0_commit_85 rfl rfl rfl ?_
        obtain ⟨r12, hc11, h⟩ := gBp_s h
        refine J_callV (As := []) (ad := ad) (f := 11) (i := n1) (st := []) (st1 := [.int r12]) (pc1 := 89) (kX4_isMember l D tc sa ad nc hnc hI n1 hn1 μ3 r12 hc11) wcX4_isMember wlX0_148 (eC11 hn1) rfl rfl rfl ⟨rfl, rfl, Nat.le_of_ble_eq_true rfl, Nat.le_of_ble_eq_true rfl⟩ ⟨Nat.zero_le _, Nat.zero_le _⟩ (Nat.le_of_ble_eq_true rfl) dX0_commit_86 rfl rfl ?_
        refine J_if_ne (tgt := 101) (pc1 := 92) dX0_commit_89 (by decide) (fun q13 => ?_) rfl (fun q13 => ?_)
        · rw [if_neg q13] at h
          cases h
          exact J_vret hr hlk dX0_commit_101
        · rw [if_pos q13] at h
          refine J_aload_n (i := 1) (q := 1) (pc1 := 93) dX0_commit_92 rfl rfl rfl ?_
          obtain ⟨μ15, hc14, h⟩ := gBp_s h
          refine J_callV (As := []) (ad := ad) (f := 11) (i := n1) (st := []) (st1 := []) (pc1 := 96) (kX4_follow l D tc sa ad nc hnc hI n1 hn1 μ3 μ15 hc14) wcX4_follow wlX0_207 (eC11 hn1) rfl rfl rfl ⟨rfl, rfl, Nat.le_of_ble_eq_true rfl, Nat.le_of_ble_eq_true rfl⟩ ⟨Nat.zero_le _, Nat.zero_le _⟩ (Nat.le_of_ble_eq_true rfl) dX0_commit_93 rfl rfl ?_
          refine J_aload_n (i := 0) (q := 0) (pc1 := 97) dX0_commit_96 rfl rfl rfl ?_
          refine J_aload_n (i := 1) (q := 1) (pc1 := 98) dX0_commit_97 rfl rfl rfl ?_
          obtain ⟨μ17, hc16, h⟩ := gBp_s h
          refine J_callV (As := [.ref (ad 11 n1)]) (ad := ad) (f := 6) (i := q0) (st := []) (st1 := []) (pc1 := 101) (kX0_resetTimer l D tc sa ad nc hnc hI q0 hq0 n1 hn1 μ15 μ17 hc16) wcX0_resetTimer wlX0_55 (eC6 hq0) rfl rfl rfl ⟨rfl, rfl, Nat.le_of_ble_eq_true rfl, Nat.le_of_ble_eq_true rfl⟩ ⟨Nat.zero_le _, Nat.zero_le _⟩ (Nat.le_of_ble_eq_true rfl) dX0_commit_98 rfl rfl ?_
          cases h
          exact J_vret hr hlk dX0_commit_101
      · rw [if_neg q10] at h
        refine J_aload_n (i := 2) (q := 2) (pc1 := 69) dX0_commit_68 rfl rfl rfl ?_
        refine J_aload_n (i := 1) (q := 1) (pc1 := 70) dX0_commit_69 rfl rfl rfl ?_
        refine J_getI (T := TX4) (pc1 := 73) (eC11 hn1) rfl rfl inX4 7 (by decide) rfl flX0_129 rfl dX0_commit_70 rfl ?_
        refine J_iconst (v := 2) (pc1 := 74) dX0_commit_73 (by decide) rfl ?_
        refine J_aload_n (i := 2) (q := 2) (pc1 := 75) dX0_commit_74 rfl rfl rfl ?_
        refine J_getI (T := TX1) (pc1 := 78) (eC12 hn1) rfl rfl inX1 11 (by decide) rfl flX0_204 rfl dX0_commit_75 rfl ?_
        obtain ⟨r19, μ20, hc18, h⟩ := gBd_s h
        refine J_callV (As := [.int (μ3 11 n1 7), .int 2, .int (μ3 12 n1 11)]) (ad := ad) (f := 12) (i := n1) (st := []) (st1 := [.int r19]) (pc1 := 81) (kX1_append l D tc sa ad nc hnc hI n1 hn1 (μ3 11 n1 7) 2 (μ3 12 n1 11) μ3 r19 μ20 hc18) wcX1_append wlX0_132 (eC12 hn1) rfl rfl rfl ⟨rfl, rfl, Nat.le_of_ble_eq_true rfl, Nat.le_of_ble_eq_true rfl⟩ ⟨Nat.zero_le _, Nat.zero_le _⟩ (Nat.le_of_ble_eq_true rfl) dX0_commit_78 rfl rfl ?_
        refine J_pop (pc1 := 82) dX0_commit_81 rfl rfl ?_
        refine J_goto (tgt := 101) dX0_commit_82 (by decide) ?_
        cases h
        exact J_vret hr hlk dX0_commit_101
    · rw [if_pos q7] at h
      cases h
      exact J_vret hr hlk dX0_commit_60
  clear ej4
  refine J_sub [2, 3, 1, 0] (lv1 := [(0, .ref (ad 6 q0)), (1, .ref (ad 11 n1)), (2, .ref (ad 12 n1)), (3, .int r2)]) rfl ?_
  refine gFx2_s (P := fun x21 μ22 => JC p l e ({ frames := 3, cells := 0, slots := 0, locals := 65 } : Room) s m args below meth c cX0_commit 4 RX0 D tc sa ad nc sz (none) μ' μ22 10 [(0, .ref (ad 6 q0)), (1, .ref (ad 11 n1)), (2, .ref (ad 12 n1)), (3, .int x21)] []) (fun rec23 ihrec23 x21 μ22 h => ?_) _ _ _ h
  try dsimp only at h
  refine J_iload_n (i := 3) (q := 3) (pc1 := 11) dX0_commit_10 rfl rfl rfl ?_
  refine J_aload_n (i := 1) (q := 1) (pc1 := 12) dX0_commit_11 rfl rfl rfl ?_
  refine J_getI (T := TX4) (pc1 := 15) (eC11 hn1) rfl rfl inX4 9 (by decide) rfl flX0_122 rfl dX0_commit_12 rfl ?_
  refine J_icmp_le (tgt := 53) (pc1 := 18) dX0_commit_15 (by decide) (fun q24 => ?_) rfl (fun q24 => ?_)
  · rw [if_pos q24] at h
    refine J_sub [0, 1, 2] (lv1 := [(0, .ref (ad 6 q0)), (1, .ref (ad 11 n1)), (2, .ref (ad 12 n1))]) rfl ?_
    exact kj4 _ h
  · rw [if_neg q24] at h
    refine J_aload_n (i := 2) (q := 2) (pc1 := 19) dX0_commit_18 rfl rfl rfl ?_
    refine J_iload_n (i := 3) (q := 3) (pc1 := 20) dX0_commit_19 rfl rfl rfl ?_
    obtain ⟨r26, hc25, h⟩ := gBp_s h
    refine J_callV (As := [.int x21]) (ad := ad) (f := 12) (i := n1) (st := []) (st1 := [.int r26]) (pc1 := 23) (kX1_termAt l D tc sa ad nc hnc hI n1 hn1 x21 μ22 r26 hc25) wcX1_termAt wlX0_191 (eC12 hn1) rfl rfl rfl ⟨rfl, rfl, Nat.le_of_ble_eq_true rfl, Nat.le_of_ble_eq_true rfl⟩ ⟨Nat.zero_le _, Nat.zero_le _⟩ (Nat.le_of_ble_eq_true rfl) dX0_commit_20 rfl rfl ?_
    refine J_aload_n (i := 1) (q := 1) (pc1 := 24) dX0_commit_23 rfl rfl rfl ?_
    refine J_getI (T := TX4) (pc1 := 27) (eC11 hn1) rfl rfl inX4 7 (by decide) rfl flX0_129 rfl dX0_commit_24 rfl ?_
    refine J_icmp_ne (tgt := 47) (pc1 := 30) dX0_commit_27 (by decide) (fun q27 => ?_) rfl (fun q27 => ?_)
    · rw [if_neg q27] at h
      refine J_iinc (i := 3) (q := 3) (v := x21 + (-1)) (lv1 := [(3, .int (x21 + (-1))), (0, .ref (ad 6 q0)), (1, .ref (ad 11 n1)), (2, .ref (ad 12 n1))]) (pc1 := 50) dX0_commit_47 rfl rfl (by decide) rfl rfl ?_
      refine J_goto (tgt := 10) dX0_commit_50 (by decide) ?_
      refine J_sub [1, 2, 3, 0] (lv1 := [(0, .ref (ad 6 q0)), (1, .ref (ad 11 n1)), (2, .ref (ad 12 n1)), (3, .int (x21 + (-1)))]) rfl ?_
      exact ihrec23 _ _ h
    · rw [if_pos q27] at h
      refine J_aload_n (i := 2) (q := 2) (pc1 := 31) dX0_commit_30 rfl rfl rfl ?_
      refine J_aload_n (i := 1) (q := 1) (pc1 := 32) dX0_commit_31 rfl rfl rfl ?_
      refine J_iload_n (i := 3) (q := 3) (pc1 := 33) dX0_commit_32 rfl rfl rfl ?_
      obtain ⟨r29, hc28, h⟩ := gBp_s h
      refine J_callV (As := [.int x21]) (ad := ad) (f := 11) (i := n1) (st := [.ref (ad 12 n1)]) (st1 := [.int r29, .ref (ad 12 n1)]) (pc1 := 36) (kX4_holders l D tc sa ad nc hnc hI n1 hn1 x21 μ22 r29 hc28) wcX4_holders wlX0_195 (eC11 hn1) rfl rfl rfl ⟨rfl, rfl, Nat.le_of_ble_eq_true rfl, Nat.le_of_ble_eq_true rfl⟩ ⟨Nat.zero_le _, Nat.zero_le _⟩ (Nat.le_of_ble_eq_true rfl) dX0_commit_33 rfl rfl ?_
      obtain ⟨r31, hc30, h⟩ := gBp_s h
      refine J_callV (As := [.int r29]) (ad := ad) (f := 12) (i := n1) (st := []) (st1 := [.int r31]) (pc1 := 39) (kX1_isQuorum l D tc sa ad nc hnc hI n1 hn1 r29 μ22 r31 hc30) wcX1_isQuorum wlX0_179 (eC12 hn1) rfl rfl rfl ⟨rfl, rfl, Nat.le_of_ble_eq_true rfl, Nat.le_of_ble_eq_true rfl⟩ ⟨Nat.zero_le _, Nat.zero_le _⟩ (Nat.le_of_ble_eq_true rfl) dX0_commit_36 rfl rfl ?_
      refine J_if_eq (tgt := 47) (pc1 := 42) dX0_commit_39 (by decide) (fun q32 => ?_) rfl (fun q32 => ?_)
      · rw [if_pos q32] at h
        refine J_iinc (i := 3) (q := 3) (v := x21 + (-1)) (lv1 := [(3, .int (x21 + (-1))), (0, .ref (ad 6 q0)), (1, .ref (ad 11 n1)), (2, .ref (ad 12 n1))]) (pc1 := 50) dX0_commit_47 rfl rfl (by decide) rfl rfl ?_
        refine J_goto (tgt := 10) dX0_commit_50 (by decide) ?_
        refine J_sub [1, 2, 3, 0] (lv1 := [(0, .ref (ad 6 q0)), (1, .ref (ad 11 n1)), (2, .ref (ad 12 n1)), (3, .int (x21 + (-1)))]) rfl ?_
        exact ihrec23 _ _ h
      · rw [if_neg q32] at h
        refine J_aload_n (i := 1) (q := 1) (pc1 := 43) dX0_commit_42 rfl rfl rfl ?_
        refine J_iload_n (i := 3) (q := 3) (pc1 := 44) dX0_commit_43 rfl rfl rfl ?_
        refine J_putI (T := TX4) (pc1 := 47) (eC11 hn1) rfl rfl inX4 tyX4 tyX4_ok nmX4 9 (by decide) rfl (fun _ _ _ _ => gh11) flX0_122 rfl rfl rfl rfl dX0_commit_44 rfl ?_
        obtain ⟨μ33, e34, h⟩ := gLet_s h
        rw [← e34]
        clear e34
        refine J_iinc (i := 3) (q := 3) (v := x21 + (-1)) (lv1 := [(3, .int (x21 + (-1))), (0, .ref (ad 6 q0)), (1, .ref (ad 11 n1)), (2, .ref (ad 12 n1))]) (pc1 := 50) dX0_commit_47 rfl rfl (by decide) rfl rfl ?_
        refine J_goto (tgt := 10) dX0_commit_50 (by decide) ?_
        refine J_sub [1, 2, 3, 0] (lv1 := [(0, .ref (ad 6 q0)), (1, .ref (ad 11 n1)), (2, .ref (ad 12 n1)), (3, .int (x21 + (-1)))]) rfl ?_
        exact ihrec23 _ _ h
def mX0_sendToMembers (nc : Nat) (q0 : Nat) (n1 : Nat) (μ : gM) : Option gM :=
  gJon (fun (μ1 : gM) =>
      some μ1) fun j2 =>
  gFx2 (fun rec5 (x3 : Int32) (μ4 : gM) =>
      if 5 ≤ x3 then
        j2 μ4
      else
        if x3 = (μ4 11 n1 0) then
          rec5 (x3 + 1) μ4
        else
          gBp (mX1_isMember nc n1 x3 μ4) fun r9 =>
          if r9 = 0 then
            rec5 (x3 + 1) μ4
          else
            gBp (mX0_sendTo nc q0 n1 x3 μ4) fun μ12 =>
            rec5 (x3 + 1) μ12) 1000000 0 μ
set_option maxHeartbeats 4000000 in
set_option maxRecDepth 100000 in
theorem kX0_sendToMembers (l : Launch) (D : va_G) (tc : Nat → ClassId) (sa : Nat → Nat) (ad : Nat → Nat → Nat) (nc : Nat) (hnc : 0 < nc ∧ nc ≤ 2) (hI : gI (gE_C nc) ad) (q0 : Nat) (hq0 : q0 < nc) (n1 : Nat) (hn1 : n1 < 5 * nc) (μ : gM) (μ' : gM) (h : mX0_sendToMembers nc q0 n1 μ = some μ') : gMet l yX0_sendToMembers cX0_sendToMembers 3 (none) ({ frames := 3, cells := 0, slots := 0, locals := 70 } : Room) D (gE_C nc) gkd_C tc ad (grh_C nc) sa [.ref (ad 6 q0), .ref (ad 11 n1)] μ (none) μ' := by
  refine gMet_of hI ⟨by decide +kernel, Nat.le_of_ble_eq_true rfl⟩ (fun p e s m args below meth c sz hr hlk => ?_)
  unfold mX0_sendToMembers at h
  show JC p l e ({ frames := 3, cells := 0, slots := 0, locals := 70 } : Room) s m args below meth c cX0_sendToMembers 3 RX0 D tc sa ad nc sz (none) μ' μ 0 [(0, .ref (ad 6 q0)), (1, .ref (ad 11 n1))] []
  refine J_iconst (v := 0) (pc1 := 1) dX0_sendToMembers_0 (by decide) rfl ?_
  refine J_istore_n (i := 2) (lv1 := [(2, .int 0), (0, .ref (ad 6 q0)), (1, .ref (ad 11 n1))]) (pc1 := 2) dX0_sendToMembers_1 rfl (by decide) rfl rfl ?_
  obtain ⟨j2, ej2, h⟩ := gJon_s h
  have kj2 : ∀ (μ1 : gM), j2 μ1 = some μ' → JC p l e ({ frames := 3, cells := 0, slots := 0, locals := 70 } : Room) s m args below meth c cX0_sendToMembers 3 RX0 D tc sa ad nc sz (none) μ' μ1 38 [] [] := by
    intro μ1 h
    rw [ej2] at h
    try dsimp only at h
    cases h
    exact J_vret hr hlk dX0_sendToMembers_38
  clear ej2
  refine J_sub [1, 2, 0] (lv1 := [(0, .ref (ad 6 q0)), (1, .ref (ad 11 n1)), (2, .int 0)]) rfl ?_
  refine gFx2_s (P := fun x3 μ4 => JC p l e ({ frames := 3, cells := 0, slots := 0, locals := 70 } : Room) s m args below meth c cX0_sendToMembers 3 RX0 D tc sa ad nc sz (none) μ' μ4 2 [(0, .ref (ad 6 q0)), (1, .ref (ad 11 n1)), (2, .int x3)] []) (fun rec5 ihrec5 x3 μ4 h => ?_) _ _ _ h
  try dsimp only at h
  refine J_iload_n (i := 2) (q := 2) (pc1 := 3) dX0_sendToMembers_2 rfl rfl rfl ?_
  refine J_iconst (v := 5) (pc1 := 4) dX0_sendToMembers_3 (by decide) rfl ?_
  refine J_icmp_ge (tgt := 38) (pc1 := 7) dX0_sendToMembers_4 (by decide) (fun q6 => ?_) rfl (fun q6 => ?_)
  · rw [if_pos q6] at h
    refine J_sub [] (lv1 := []) rfl ?_
    exact kj2 _ h
  · rw [if_neg q6] at h
    refine J_iload_n (i := 2) (q := 2) (pc1 := 8) dX0_sendToMembers_7 rfl rfl rfl ?_
    refine J_aload_n (i := 1) (q := 1) (pc1 := 9) dX0_sendToMembers_8 rfl rfl rfl ?_
    refine J_getI (T := TX4) (pc1 := 12) (eC11 hn1) rfl rfl inX4 0 (by decide) rfl flX0_138 rfl dX0_sendToMembers_9 rfl ?_
    refine J_icmp_eq (tgt := 32) (pc1 := 15) dX0_sendToMembers_12 (by decide) (fun q7 => ?_) rfl (fun q7 => ?_)
    · rw [if_pos q7] at h
      refine J_iinc (i := 2) (q := 2) (v := x3 + 1) (lv1 := [(2, .int (x3 + 1)), (0, .ref (ad 6 q0)), (1, .ref (ad 11 n1))]) (pc1 := 35) dX0_sendToMembers_32 rfl rfl (by decide) rfl rfl ?_
      refine J_goto (tgt := 2) dX0_sendToMembers_35 (by decide) ?_
      refine J_sub [1, 2, 0] (lv1 := [(0, .ref (ad 6 q0)), (1, .ref (ad 11 n1)), (2, .int (x3 + 1))]) rfl ?_
      exact ihrec5 _ _ h
    · rw [if_neg q7] at h
      refine J_aload_n (i := 1) (q := 1) (pc1 := 16) dX0_sendToMembers_15 rfl rfl rfl ?_
      refine J_getR (T := TX4) (f' := 12) (i' := n1) (pc1 := 19) (eC11 hn1) rfl rfl inX4 1 (by decide) rfl rfl flX0_113 rfl dX0_sendToMembers_16 rfl ?_
      refine J_iload_n (i := 2) (q := 2) (pc1 := 20) dX0_sendToMembers_19 rfl rfl rfl ?_
      obtain ⟨r9, hc8, h⟩ := gBp_s h
      refine J_callV (As := [.int x3]) (ad := ad) (f := 12) (i := n1) (st := []) (st1 := [.int r9]) (pc1 := 23) (kX1_isMember l D tc sa ad nc hnc hI n1 hn1 x3 μ4 r9 hc8) wcX1_isMember wlX0_161 (eC12 hn1) rfl rfl rfl ⟨rfl, rfl, Nat.le_of_ble_eq_true rfl, Nat.le_of_ble_eq_true rfl⟩ ⟨Nat.zero_le _, Nat.zero_le _⟩ (Nat.le_of_ble_eq_true rfl) dX0_sendToMembers_20 rfl rfl ?_
      refine J_if_eq (tgt := 32) (pc1 := 26) dX0_sendToMembers_23 (by decide) (fun q10 => ?_) rfl (fun q10 => ?_)
      · rw [if_pos q10] at h
        refine J_iinc (i := 2) (q := 2) (v := x3 + 1) (lv1 := [(2, .int (x3 + 1)), (0, .ref (ad 6 q0)), (1, .ref (ad 11 n1))]) (pc1 := 35) dX0_sendToMembers_32 rfl rfl (by decide) rfl rfl ?_
        refine J_goto (tgt := 2) dX0_sendToMembers_35 (by decide) ?_
        refine J_sub [1, 2, 0] (lv1 := [(0, .ref (ad 6 q0)), (1, .ref (ad 11 n1)), (2, .int (x3 + 1))]) rfl ?_
        exact ihrec5 _ _ h
      · rw [if_neg q10] at h
        refine J_aload_n (i := 0) (q := 0) (pc1 := 27) dX0_sendToMembers_26 rfl rfl rfl ?_
        refine J_aload_n (i := 1) (q := 1) (pc1 := 28) dX0_sendToMembers_27 rfl rfl rfl ?_
        refine J_iload_n (i := 2) (q := 2) (pc1 := 29) dX0_sendToMembers_28 rfl rfl rfl ?_
        obtain ⟨μ12, hc11, h⟩ := gBp_s h
        refine J_callV (As := [.ref (ad 11 n1), .int x3]) (ad := ad) (f := 6) (i := q0) (st := []) (st1 := []) (pc1 := 32) (kX0_sendTo l D tc sa ad nc hnc hI q0 hq0 n1 hn1 x3 μ4 μ12 hc11) wcX0_sendTo wlX0_210 (eC6 hq0) rfl rfl rfl ⟨rfl, rfl, Nat.le_of_ble_eq_true rfl, Nat.le_of_ble_eq_true rfl⟩ ⟨Nat.zero_le _, Nat.zero_le _⟩ (Nat.le_of_ble_eq_true rfl) dX0_sendToMembers_29 rfl rfl ?_
        refine J_iinc (i := 2) (q := 2) (v := x3 + 1) (lv1 := [(2, .int (x3 + 1)), (0, .ref (ad 6 q0)), (1, .ref (ad 11 n1))]) (pc1 := 35) dX0_sendToMembers_32 rfl rfl (by decide) rfl rfl ?_
        refine J_goto (tgt := 2) dX0_sendToMembers_35 (by decide) ?_
        refine J_sub [1, 2, 0] (lv1 := [(0, .ref (ad 6 q0)), (1, .ref (ad 11 n1)), (2, .int (x3 + 1))]) rfl ?_
        exact ihrec5 _ _ h
def mX0_finish (nc : Nat) (q0 : Nat) (n1 : Nat) (a2 : Int32) (μ : gM) : Option gM :=
  gJon (fun (μ1 : gM) =>
      gJon (fun (μ3 : gM) =>
          gJon (fun (u8 : Unit) =>
              gBp (mX0_sendToMembers nc q0 n1 μ3) fun μ7 =>
              some μ7) fun j5 =>
          if a2 = 1 then
            j5 () 
          else
            if a2 = 3 then
              j5 () 
            else
              some μ3) fun j4 =>
      gJon (fun (u14 : Unit) =>
          gBp (mX0_commit nc q0 n1 μ1) fun μ13 =>
          j4 μ13) fun j11 =>
      if a2 = 1 then
        j11 () 
      else
        if a2 = 2 then
          j11 () 
        else
          j4 μ1) fun j2 =>
  if a2 = 1 then
    gBp (mX0_becomeLeader nc q0 n1 μ) fun μ19 =>
    j2 μ19
  else
    j2 μ
set_option maxHeartbeats 4000000 in
set_option maxRecDepth 100000 in
theorem kX0_finish (l : Launch) (D : va_G) (tc : Nat → ClassId) (sa : Nat → Nat) (ad : Nat → Nat → Nat) (nc : Nat) (hnc : 0 < nc ∧ nc ≤ 2) (hI : gI (gE_C nc) ad) (q0 : Nat) (hq0 : q0 < nc) (n1 : Nat) (hn1 : n1 < 5 * nc) (a2 : Int32) (μ : gM) (μ' : gM) (h : mX0_finish nc q0 n1 a2 μ = some μ') : gMet l yX0_finish cX0_finish 3 (none) ({ frames := 4, cells := 0, slots := 0, locals := 92 } : Room) D (gE_C nc) gkd_C tc ad (grh_C nc) sa [.ref (ad 6 q0), .ref (ad 11 n1), .int a2] μ (none) μ' := by
  refine gMet_of hI ⟨by decide +kernel, Nat.le_of_ble_eq_true rfl⟩ (fun p e s m args below meth c sz hr hlk => ?_)
  unfold mX0_finish at h
  show JC p l e ({ frames := 4, cells := 0, slots := 0, locals := 92 } : Room) s m args below meth c cX0_finish 3 RX0 D tc sa ad nc sz (none) μ' μ 0 [(0, .ref (ad 6 q0)), (1, .ref (ad 11 n1)), (2, .int a2)] []
  refine J_iload_n (i := 2) (q := 2) (pc1 := 1) dX0_finish_0 rfl rfl rfl ?_
  refine J_iconst (v := 1) (pc1 := 2) dX0_finish_1 (by decide) rfl ?_
  obtain ⟨j2, ej2, h⟩ := gJon_s h
  have kj2 : ∀ (μ1 : gM), j2 μ1 = some μ' → JC p l e ({ frames := 4, cells := 0, slots := 0, locals := 92 } : Room) s m args below meth c cX0_finish 3 RX0 D tc sa ad nc sz (none) μ' μ1 10 [(0, .ref (ad 6 q0)), (1, .ref (ad 11 n1)), (2, .int a2)] [] := by
    intro μ1 h
    rw [ej2] at h
    try dsimp only at h
    refine J_iload_n (i := 2) (q := 2) (pc1 := 11) dX0_finish_10 rfl rfl rfl ?_
    refine J_iconst (v := 1) (pc1 := 12) dX0_finish_11 (by decide) rfl ?_
    obtain ⟨j4, ej4, h⟩ := gJon_s h
    have kj4 : ∀ (μ3 : gM), j4 μ3 = some μ' → JC p l e ({ frames := 4, cells := 0, slots := 0, locals := 92 } : Room) s m args below meth c cX0_finish 3 RX0 D tc sa ad nc sz (none) μ' μ3 25 [(0, .ref (ad 6 q0)), (1, .ref (ad 11 n1)), (2, .int a2)] [] := by
      intro μ3 h
      rw [ej4] at h
      try dsimp only at h
      refine J_iload_n (i := 2) (q := 2) (pc1 := 26) dX0_finish_25 rfl rfl rfl ?_
      refine J_iconst (v := 1) (pc1 := 27) dX0_finish_26 (by decide) rfl ?_
      obtain ⟨j5, ej5, h⟩ := gJon_s h
      have kj5 : ∀ (u8 : Unit), j5 u8 = some μ' → JC p l e ({ frames := 4, cells := 0, slots := 0, locals := 92 } : Room) s m args below meth c cX0_finish 3 RX0 D tc sa ad nc sz (none) μ' μ3 35 [(0, .ref (ad 6 q0)), (1, .ref (ad 11 n1))] [] := by
        intro u8 h
        rw [ej5] at h
        try dsimp only at h
        refine J_aload_n (i := 0) (q := 0) (pc1 := 36) dX0_finish_35 rfl rfl rfl ?_
        refine J_aload_n (i := 1) (q := 1) (pc1 := 37) dX0_finish_36 rfl rfl rfl ?_
        obtain ⟨μ7, hc6, h⟩ := gBp_s h
        refine J_callV (As := [.ref (ad 11 n1)]) (ad := ad) (f := 6) (i := q0) (st := []) (st1 := []) (pc1 := 40) (kX0_sendToMembers l D tc sa ad nc hnc hI q0 hq0 n1 hn1 μ3 μ7 hc6) wcX0_sendToMembers wlX0_185 (eC6 hq0) rfl rfl rfl ⟨rfl, rfl, Nat.le_of_ble_eq_true rfl, Nat.le_of_ble_eq_true rfl⟩ ⟨Nat.zero_le _, Nat.zero_le _⟩ (Nat.le_of_ble_eq_true rfl) dX0_finish_37 rfl rfl ?_
        cases h
        exact J_vret hr hlk dX0_finish_40
      clear ej5
      refine J_icmp_eq (tgt := 35) (pc1 := 30) dX0_finish_27 (by decide) (fun q9 => ?_) rfl (fun q9 => ?_)
      · rw [if_pos q9] at h
        refine J_sub [0, 1] (lv1 := [(0, .ref (ad 6 q0)), (1, .ref (ad 11 n1))]) rfl ?_
        exact kj5 ()  h
      · rw [if_neg q9] at h
        refine J_iload_n (i := 2) (q := 2) (pc1 := 31) dX0_finish_30 rfl rfl rfl ?_
        refine J_iconst (v := 3) (pc1 := 32) dX0_finish_31 (by decide) rfl ?_
        refine J_icmp_ne (tgt := 40) (pc1 := 35) dX0_finish_32 (by decide) (fun q10 => ?_) rfl (fun q10 => ?_)
        · rw [if_neg q10] at h
          cases h
          exact J_vret hr hlk dX0_finish_40
        · rw [if_pos q10] at h
          refine J_sub [0, 1] (lv1 := [(0, .ref (ad 6 q0)), (1, .ref (ad 11 n1))]) rfl ?_
          exact kj5 ()  h
    clear ej4
    obtain ⟨j11, ej11, h⟩ := gJon_s h
    have kj11 : ∀ (u14 : Unit), j11 u14 = some μ' → JC p l e ({ frames := 4, cells := 0, slots := 0, locals := 92 } : Room) s m args below meth c cX0_finish 3 RX0 D tc sa ad nc sz (none) μ' μ1 20 [(0, .ref (ad 6 q0)), (1, .ref (ad 11 n1)), (2, .int a2)] [] := by
      intro u14 h
      rw [ej11] at h
      try dsimp only at h
      refine J_aload_n (i := 0) (q := 0) (pc1 := 21) dX0_finish_20 rfl rfl rfl ?_
      refine J_aload_n (i := 1) (q := 1) (pc1 := 22) dX0_finish_21 rfl rfl rfl ?_
      obtain ⟨μ13, hc12, h⟩ := gBp_s h
      refine J_callV (As := [.ref (ad 11 n1)]) (ad := ad) (f := 6) (i := q0) (st := []) (st1 := []) (pc1 := 25) (kX0_commit l D tc sa ad nc hnc hI q0 hq0 n1 hn1 μ1 μ13 hc12) wcX0_commit wlX0_136 (eC6 hq0) rfl rfl rfl ⟨rfl, rfl, Nat.le_of_ble_eq_true rfl, Nat.le_of_ble_eq_true rfl⟩ ⟨Nat.zero_le _, Nat.zero_le _⟩ (Nat.le_of_ble_eq_true rfl) dX0_finish_22 rfl rfl ?_
      exact kj4 _ h
    clear ej11
    refine J_icmp_eq (tgt := 20) (pc1 := 15) dX0_finish_12 (by decide) (fun q15 => ?_) rfl (fun q15 => ?_)
    · rw [if_pos q15] at h
      exact kj11 ()  h
    · rw [if_neg q15] at h
      refine J_iload_n (i := 2) (q := 2) (pc1 := 16) dX0_finish_15 rfl rfl rfl ?_
      refine J_iconst (v := 2) (pc1 := 17) dX0_finish_16 (by decide) rfl ?_
      refine J_icmp_ne (tgt := 25) (pc1 := 20) dX0_finish_17 (by decide) (fun q16 => ?_) rfl (fun q16 => ?_)
      · rw [if_neg q16] at h
        exact kj4 _ h
      · rw [if_pos q16] at h
        exact kj11 ()  h
  clear ej2
  refine J_icmp_ne (tgt := 10) (pc1 := 5) dX0_finish_2 (by decide) (fun q17 => ?_) rfl (fun q17 => ?_)
  · rw [if_neg q17] at h
    exact kj2 _ h
  · rw [if_pos q17] at h
    refine J_aload_n (i := 0) (q := 0) (pc1 := 6) dX0_finish_5 rfl rfl rfl ?_
    refine J_aload_n (i := 1) (q := 1) (pc1 := 7) dX0_finish_6 rfl rfl rfl ?_
    obtain ⟨μ19, hc18, h⟩ := gBp_s h
    refine J_callV (As := [.ref (ad 11 n1)]) (ad := ad) (f := 6) (i := q0) (st := []) (st1 := []) (pc1 := 10) (kX0_becomeLeader l D tc sa ad nc hnc hI q0 hq0 n1 hn1 μ μ19 hc18) wcX0_becomeLeader wlX0_182 (eC6 hq0) rfl rfl rfl ⟨rfl, rfl, Nat.le_of_ble_eq_true rfl, Nat.le_of_ble_eq_true rfl⟩ ⟨Nat.zero_le _, Nat.zero_le _⟩ (Nat.le_of_ble_eq_true rfl) dX0_finish_7 rfl rfl ?_
    exact kj2 _ h
def mX0_stand (nc : Nat) (q0 : Nat) (n1 : Nat) (μ : gM) : Option (Int32 × gM) :=
  gLet (α := gM) (w3 μ 6 q0 5 ((μ 6 q0 5) + 1)) fun μ1 =>
  gLet (α := gM) (w3 μ1 11 n1 7 ((μ1 11 n1 7) + 1)) fun μ3 =>
  gLet (α := gM) (w3 μ3 11 n1 6 1) fun μ5 =>
  gLet (α := gM) (w3 μ5 11 n1 8 (μ5 11 n1 0)) fun μ7 =>
  gLet (α := gM) (w3 μ7 11 n1 11 (1 <<< ((μ7 11 n1 0) &&& 31))) fun μ9 =>
  gBp (mX0_resetTimer nc q0 n1 μ9) fun μ12 =>
  gJon (fun (μ13 : gM) =>
      gBp (mX1_isQuorum nc n1 (μ13 11 n1 11) μ13) fun r16 =>
      if r16 = 0 then
        some (0, μ13)
      else
        some (1, μ13)) fun j14 =>
  gFx2 (fun rec20 (x18 : Int32) (μ19 : gM) =>
      if 5 ≤ x18 then
        j14 μ19
      else
        if x18 = (μ19 11 n1 0) then
          rec20 (x18 + 1) μ19
        else
          gBp (mX1_isMember nc n1 x18 μ19) fun r24 =>
          if r24 = 0 then
            rec20 (x18 + 1) μ19
          else
            gBd (mX0_open nc q0 0 n1 x18 μ19) fun r27 μ28 =>
            gChk (r27 < 42 * nc) <|
            gBp (mX1_lastIndex nc n1 μ28) fun r31 =>
            gLet (α := gM) (w3 μ28 19 r27 10 r31) fun μ32 =>
            gBp (mX1_lastTerm nc n1 μ32) fun r35 =>
            gLet (α := gM) (w3 μ32 19 r27 11 r35) fun μ36 =>
            gBp (mX3_post nc q0 μ36) fun μ39 =>
            rec20 (x18 + 1) μ39) 1000000 0 μ12
set_option maxHeartbeats 4000000 in
set_option maxRecDepth 100000 in
theorem kX0_stand (l : Launch) (D : va_G) (tc : Nat → ClassId) (sa : Nat → Nat) (ad : Nat → Nat → Nat) (nc : Nat) (hnc : 0 < nc ∧ nc ≤ 2) (hI : gI (gE_C nc) ad) (q0 : Nat) (hq0 : q0 < nc) (n1 : Nat) (hn1 : n1 < 5 * nc) (μ : gM) (r : Int32) (μ' : gM) (h : mX0_stand nc q0 n1 μ = some (r, μ')) : gMet l yX0_stand cX0_stand 4 (some .int) ({ frames := 2, cells := 0, slots := 0, locals := 44 } : Room) D (gE_C nc) gkd_C tc ad (grh_C nc) sa [.ref (ad 6 q0), .ref (ad 11 n1)] μ (some (.int r)) μ' := by
  refine gMet_of hI ⟨by decide +kernel, Nat.le_of_ble_eq_true rfl⟩ (fun p e s m args below meth c sz hr hlk => ?_)
  unfold mX0_stand at h
  show JC p l e ({ frames := 2, cells := 0, slots := 0, locals := 44 } : Room) s m args below meth c cX0_stand 4 RX0 D tc sa ad nc sz (some (.int r)) μ' μ 0 [(0, .ref (ad 6 q0)), (1, .ref (ad 11 n1))] []
  refine J_aload_n (i := 0) (q := 0) (pc1 := 1) dX0_stand_0 rfl rfl rfl ?_
  refine J_dup (pc1 := 2) dX0_stand_1 rfl rfl ?_
  refine J_getI (T := TX0) (pc1 := 5) (eC6 hq0) rfl rfl inX0 5 (by decide) rfl flX0_38 rfl dX0_stand_2 rfl ?_
  refine J_iconst (v := 1) (pc1 := 6) dX0_stand_5 (by decide) rfl ?_
  refine J_iadd (pc1 := 7) dX0_stand_6 rfl ?_
  refine J_putI (T := TX0) (pc1 := 10) (eC6 hq0) rfl rfl inX0 tyX0 tyX0_ok nmX0 5 (by decide) rfl (fun _ _ _ _ => gh6) flX0_38 rfl rfl rfl rfl dX0_stand_7 rfl ?_
  obtain ⟨μ1, e2, h⟩ := gLet_s h
  rw [← e2]
  clear e2
  refine J_aload_n (i := 1) (q := 1) (pc1 := 11) dX0_stand_10 rfl rfl rfl ?_
  refine J_dup (pc1 := 12) dX0_stand_11 rfl rfl ?_
  refine J_getI (T := TX4) (pc1 := 15) (eC11 hn1) rfl rfl inX4 7 (by decide) rfl flX0_129 rfl dX0_stand_12 rfl ?_
  refine J_iconst (v := 1) (pc1 := 16) dX0_stand_15 (by decide) rfl ?_
  refine J_iadd (pc1 := 17) dX0_stand_16 rfl ?_
  refine J_putI (T := TX4) (pc1 := 20) (eC11 hn1) rfl rfl inX4 tyX4 tyX4_ok nmX4 7 (by decide) rfl (fun _ _ _ _ => gh11) flX0_129 rfl rfl rfl rfl dX0_stand_17 rfl ?_
  obtain ⟨μ3, e4, h⟩ := gLet_s h
  rw [← e4]
  clear e4
  refine J_aload_n (i := 1) (q := 1) (pc1 := 21) dX0_stand_20 rfl rfl rfl ?_
  refine J_iconst (v := 1) (pc1 := 22) dX0_stand_21 (by decide) rfl ?_
  refine J_putI (T := TX4) (pc1 := 25) (eC11 hn1) rfl rfl inX4 tyX4 tyX4_ok nmX4 6 (by decide) rfl (fun _ _ _ _ => gh11) flX0_145 rfl rfl rfl rfl dX0_stand_22 rfl ?_
  obtain ⟨μ5, e6, h⟩ := gLet_s h
  rw [← e6]
  clear e6
  refine J_aload_n (i := 1) (q := 1) (pc1 := 26) dX0_stand_25 rfl rfl rfl ?_
  refine J_aload_n (i := 1) (q := 1) (pc1 := 27) dX0_stand_26 rfl rfl rfl ?_
  refine J_getI (T := TX4) (pc1 := 30) (eC11 hn1) rfl rfl inX4 0 (by decide) rfl flX0_138 rfl dX0_stand_27 rfl ?_
  refine J_putI (T := TX4) (pc1 := 33) (eC11 hn1) rfl rfl inX4 tyX4 tyX4_ok nmX4 8 (by decide) rfl (fun _ _ _ _ => gh11) flX0_155 rfl rfl rfl rfl dX0_stand_30 rfl ?_
  obtain ⟨μ7, e8, h⟩ := gLet_s h
  rw [← e8]
  clear e8
  refine J_aload_n (i := 1) (q := 1) (pc1 := 34) dX0_stand_33 rfl rfl rfl ?_
  refine J_iconst (v := 1) (pc1 := 35) dX0_stand_34 (by decide) rfl ?_
  refine J_aload_n (i := 1) (q := 1) (pc1 := 36) dX0_stand_35 rfl rfl rfl ?_
  refine J_getI (T := TX4) (pc1 := 39) (eC11 hn1) rfl rfl inX4 0 (by decide) rfl flX0_138 rfl dX0_stand_36 rfl ?_
  refine J_ishl (pc1 := 40) dX0_stand_39 rfl ?_
  refine J_putI (T := TX4) (pc1 := 43) (eC11 hn1) rfl rfl inX4 tyX4 tyX4_ok nmX4 11 (by decide) rfl (fun _ _ _ _ => gh11) flX0_158 rfl rfl rfl rfl dX0_stand_40 rfl ?_
  obtain ⟨μ9, e10, h⟩ := gLet_s h
  rw [← e10]
  clear e10
  refine J_aload_n (i := 0) (q := 0) (pc1 := 44) dX0_stand_43 rfl rfl rfl ?_
  refine J_aload_n (i := 1) (q := 1) (pc1 := 45) dX0_stand_44 rfl rfl rfl ?_
  obtain ⟨μ12, hc11, h⟩ := gBp_s h
  refine J_callV (As := [.ref (ad 11 n1)]) (ad := ad) (f := 6) (i := q0) (st := []) (st1 := []) (pc1 := 48) (kX0_resetTimer l D tc sa ad nc hnc hI q0 hq0 n1 hn1 μ9 μ12 hc11) wcX0_resetTimer wlX0_55 (eC6 hq0) rfl rfl rfl ⟨rfl, rfl, Nat.le_of_ble_eq_true rfl, Nat.le_of_ble_eq_true rfl⟩ ⟨Nat.zero_le _, Nat.zero_le _⟩ (Nat.le_of_ble_eq_true rfl) dX0_stand_45 rfl rfl ?_
  refine J_iconst (v := 0) (pc1 := 49) dX0_stand_48 (by decide) rfl ?_
  refine J_istore_n (i := 2) (lv1 := [(2, .int 0), (0, .ref (ad 6 q0)), (1, .ref (ad 11 n1))]) (pc1 := 50) dX0_stand_49 rfl (by decide) rfl rfl ?_
  obtain ⟨j14, ej14, h⟩ := gJon_s h
  have kj14 : ∀ (μ13 : gM), j14 μ13 = some (r, μ') → JC p l e ({ frames := 2, cells := 0, slots := 0, locals := 44 } : Room) s m args below meth c cX0_stand 4 RX0 D tc sa ad nc sz (some (.int r)) μ' μ13 117 [(1, .ref (ad 11 n1))] [] := by
    intro μ13 h
    rw [ej14] at h
    try dsimp only at h
    refine J_aload_n (i := 1) (q := 0) (pc1 := 118) dX0_stand_117 rfl rfl rfl ?_
    refine J_getR (T := TX4) (f' := 12) (i' := n1) (pc1 := 121) (eC11 hn1) rfl rfl inX4 1 (by decide) rfl rfl flX0_113 rfl dX0_stand_118 rfl ?_
    refine J_aload_n (i := 1) (q := 0) (pc1 := 122) dX0_stand_121 rfl rfl rfl ?_
    refine J_getI (T := TX4) (pc1 := 125) (eC11 hn1) rfl rfl inX4 11 (by decide) rfl flX0_158 rfl dX0_stand_122 rfl ?_
    obtain ⟨r16, hc15, h⟩ := gBp_s h
    refine J_callV (As := [.int (μ13 11 n1 11)]) (ad := ad) (f := 12) (i := n1) (st := []) (st1 := [.int r16]) (pc1 := 128) (kX1_isQuorum l D tc sa ad nc hnc hI n1 hn1 (μ13 11 n1 11) μ13 r16 hc15) wcX1_isQuorum wlX0_179 (eC12 hn1) rfl rfl rfl ⟨rfl, rfl, Nat.le_of_ble_eq_true rfl, Nat.le_of_ble_eq_true rfl⟩ ⟨Nat.zero_le _, Nat.zero_le _⟩ (Nat.le_of_ble_eq_true rfl) dX0_stand_125 rfl rfl ?_
    refine J_if_eq (tgt := 135) (pc1 := 131) dX0_stand_128 (by decide) (fun q17 => ?_) rfl (fun q17 => ?_)
    · rw [if_pos q17] at h
      refine J_iconst (v := 0) (pc1 := 136) dX0_stand_135 (by decide) rfl ?_
      cases h
      exact J_iret hr hlk dX0_stand_136
    · rw [if_neg q17] at h
      refine J_iconst (v := 1) (pc1 := 132) dX0_stand_131 (by decide) rfl ?_
      refine J_goto (tgt := 136) dX0_stand_132 (by decide) ?_
      cases h
      exact J_iret hr hlk dX0_stand_136
  clear ej14
  refine J_sub [1, 2, 0] (lv1 := [(0, .ref (ad 6 q0)), (1, .ref (ad 11 n1)), (2, .int 0)]) rfl ?_
  refine gFx2_s (P := fun x18 μ19 => JC p l e ({ frames := 2, cells := 0, slots := 0, locals := 44 } : Room) s m args below meth c cX0_stand 4 RX0 D tc sa ad nc sz (some (.int r)) μ' μ19 50 [(0, .ref (ad 6 q0)), (1, .ref (ad 11 n1)), (2, .int x18)] []) (fun rec20 ihrec20 x18 μ19 h => ?_) _ _ _ h
  try dsimp only at h
  refine J_iload_n (i := 2) (q := 2) (pc1 := 51) dX0_stand_50 rfl rfl rfl ?_
  refine J_iconst (v := 5) (pc1 := 52) dX0_stand_51 (by decide) rfl ?_
  refine J_icmp_ge (tgt := 117) (pc1 := 55) dX0_stand_52 (by decide) (fun q21 => ?_) rfl (fun q21 => ?_)
  · rw [if_pos q21] at h
    refine J_sub [1] (lv1 := [(1, .ref (ad 11 n1))]) rfl ?_
    exact kj14 _ h
  · rw [if_neg q21] at h
    refine J_iload_n (i := 2) (q := 2) (pc1 := 56) dX0_stand_55 rfl rfl rfl ?_
    refine J_aload_n (i := 1) (q := 1) (pc1 := 57) dX0_stand_56 rfl rfl rfl ?_
    refine J_getI (T := TX4) (pc1 := 60) (eC11 hn1) rfl rfl inX4 0 (by decide) rfl flX0_138 rfl dX0_stand_57 rfl ?_
    refine J_icmp_eq (tgt := 111) (pc1 := 63) dX0_stand_60 (by decide) (fun q22 => ?_) rfl (fun q22 => ?_)
    · rw [if_pos q22] at h
      refine J_iinc (i := 2) (q := 2) (v := x18 + 1) (lv1 := [(2, .int (x18 + 1)), (0, .ref (ad 6 q0)), (1, .ref (ad 11 n1))]) (pc1 := 114) dX0_stand_111 rfl rfl (by decide) rfl rfl ?_
      refine J_goto (tgt := 50) dX0_stand_114 (by decide) ?_
      refine J_sub [1, 2, 0] (lv1 := [(0, .ref (ad 6 q0)), (1, .ref (ad 11 n1)), (2, .int (x18 + 1))]) rfl ?_
      exact ihrec20 _ _ h
    · rw [if_neg q22] at h
      refine J_aload_n (i := 1) (q := 1) (pc1 := 64) dX0_stand_63 rfl rfl rfl ?_
      refine J_getR (T := TX4) (f' := 12) (i' := n1) (pc1 := 67) (eC11 hn1) rfl rfl inX4 1 (by decide) rfl rfl flX0_113 rfl dX0_stand_64 rfl ?_
      refine J_iload_n (i := 2) (q := 2) (pc1 := 68) dX0_stand_67 rfl rfl rfl ?_
      obtain ⟨r24, hc23, h⟩ := gBp_s h
      refine J_callV (As := [.int x18]) (ad := ad) (f := 12) (i := n1) (st := []) (st1 := [.int r24]) (pc1 := 71) (kX1_isMember l D tc sa ad nc hnc hI n1 hn1 x18 μ19 r24 hc23) wcX1_isMember wlX0_161 (eC12 hn1) rfl rfl rfl ⟨rfl, rfl, Nat.le_of_ble_eq_true rfl, Nat.le_of_ble_eq_true rfl⟩ ⟨Nat.zero_le _, Nat.zero_le _⟩ (Nat.le_of_ble_eq_true rfl) dX0_stand_68 rfl rfl ?_
      refine J_if_eq (tgt := 111) (pc1 := 74) dX0_stand_71 (by decide) (fun q25 => ?_) rfl (fun q25 => ?_)
      · rw [if_pos q25] at h
        refine J_iinc (i := 2) (q := 2) (v := x18 + 1) (lv1 := [(2, .int (x18 + 1)), (0, .ref (ad 6 q0)), (1, .ref (ad 11 n1))]) (pc1 := 114) dX0_stand_111 rfl rfl (by decide) rfl rfl ?_
        refine J_goto (tgt := 50) dX0_stand_114 (by decide) ?_
        refine J_sub [1, 2, 0] (lv1 := [(0, .ref (ad 6 q0)), (1, .ref (ad 11 n1)), (2, .int (x18 + 1))]) rfl ?_
        exact ihrec20 _ _ h
      · rw [if_neg q25] at h
        refine J_aload_n (i := 0) (q := 0) (pc1 := 75) dX0_stand_74 rfl rfl rfl ?_
        refine J_iconst (v := 0) (pc1 := 76) dX0_stand_75 (by decide) rfl ?_
        refine J_aload_n (i := 1) (q := 1) (pc1 := 77) dX0_stand_76 rfl rfl rfl ?_
        refine J_iload_n (i := 2) (q := 2) (pc1 := 78) dX0_stand_77 rfl rfl rfl ?_
        obtain ⟨r27, μ28, hc26, h⟩ := gBd_s h
        obtain ⟨h29, h⟩ := gChk_s h
        refine J_callV (As := [.int 0, .ref (ad 11 n1), .int x18]) (ad := ad) (f := 6) (i := q0) (st := []) (st1 := [.ref (ad 19 r27)]) (pc1 := 81) (kX0_open l D tc sa ad nc hnc hI q0 hq0 0 n1 hn1 x18 μ19 r27 μ28 hc26) wcX0_open wlX0_163 (eC6 hq0) rfl rfl rfl ⟨rfl, rfl, Nat.le_of_ble_eq_true rfl, Nat.le_of_ble_eq_true rfl⟩ ⟨Nat.zero_le _, Nat.zero_le _⟩ (Nat.le_of_ble_eq_true rfl) dX0_stand_78 rfl rfl ?_
        refine J_astore_n (i := 3) (lv1 := [(3, .ref (ad 19 r27)), (0, .ref (ad 6 q0)), (1, .ref (ad 11 n1)), (2, .int x18)]) (pc1 := 82) dX0_stand_81 rfl (by decide) rfl rfl ?_
        refine J_aload_n (i := 3) (q := 0) (pc1 := 83) dX0_stand_82 rfl rfl rfl ?_
        refine J_aload_n (i := 1) (q := 2) (pc1 := 84) dX0_stand_83 rfl rfl rfl ?_
        refine J_getR (T := TX4) (f' := 12) (i' := n1) (pc1 := 87) (eC11 hn1) rfl rfl inX4 1 (by decide) rfl rfl flX0_113 rfl dX0_stand_84 rfl ?_
        obtain ⟨r31, hc30, h⟩ := gBp_s h
        refine J_callV (As := []) (ad := ad) (f := 12) (i := n1) (st := [.ref (ad 19 r27)]) (st1 := [.int r31, .ref (ad 19 r27)]) (pc1 := 90) (kX1_lastIndex l D tc sa ad nc hnc hI n1 hn1 μ28 r31 hc30) wcX1_lastIndex wlX0_125 (eC12 hn1) rfl rfl rfl ⟨rfl, rfl, Nat.le_of_ble_eq_true rfl, Nat.le_of_ble_eq_true rfl⟩ ⟨Nat.zero_le _, Nat.zero_le _⟩ (Nat.le_of_ble_eq_true rfl) dX0_stand_87 rfl rfl ?_
        refine J_putI (T := TX2) (pc1 := 93) (eC19 h29) rfl rfl inX2 tyX2 tyX2_ok nmX2 10 (by decide) rfl (fun _ _ _ _ => gh19) flX0_167 rfl rfl rfl rfl dX0_stand_90 rfl ?_
        obtain ⟨μ32, e33, h⟩ := gLet_s h
        rw [← e33]
        clear e33
        refine J_aload_n (i := 3) (q := 0) (pc1 := 94) dX0_stand_93 rfl rfl rfl ?_
        refine J_aload_n (i := 1) (q := 2) (pc1 := 95) dX0_stand_94 rfl rfl rfl ?_
        refine J_getR (T := TX4) (f' := 12) (i' := n1) (pc1 := 98) (eC11 hn1) rfl rfl inX4 1 (by decide) rfl rfl flX0_113 rfl dX0_stand_95 rfl ?_
        obtain ⟨r35, hc34, h⟩ := gBp_s h
        refine J_callV (As := []) (ad := ad) (f := 12) (i := n1) (st := [.ref (ad 19 r27)]) (st1 := [.int r35, .ref (ad 19 r27)]) (pc1 := 101) (kX1_lastTerm l D tc sa ad nc hnc hI n1 hn1 μ32 r35 hc34) wcX1_lastTerm wlX0_170 (eC12 hn1) rfl rfl rfl ⟨rfl, rfl, Nat.le_of_ble_eq_true rfl, Nat.le_of_ble_eq_true rfl⟩ ⟨Nat.zero_le _, Nat.zero_le _⟩ (Nat.le_of_ble_eq_true rfl) dX0_stand_98 rfl rfl ?_
        refine J_putI (T := TX2) (pc1 := 104) (eC19 h29) rfl rfl inX2 tyX2 tyX2_ok nmX2 11 (by decide) rfl (fun _ _ _ _ => gh19) flX0_173 rfl rfl rfl rfl dX0_stand_101 rfl ?_
        obtain ⟨μ36, e37, h⟩ := gLet_s h
        rw [← e37]
        clear e37
        refine J_aload_n (i := 0) (q := 1) (pc1 := 105) dX0_stand_104 rfl rfl rfl ?_
        refine J_getR (T := TX0) (f' := 9) (i' := q0) (pc1 := 108) (eC6 hq0) rfl rfl inX0 1 (by decide) rfl rfl flX0_23 rfl dX0_stand_105 rfl ?_
        obtain ⟨μ39, hc38, h⟩ := gBp_s h
        refine J_callV (As := []) (ad := ad) (f := 9) (i := q0) (st := []) (st1 := []) (pc1 := 111) (kX3_post l D tc sa ad nc hnc hI q0 hq0 μ36 μ39 hc38) wcX3_post wlX0_176 (eC9 hq0) rfl rfl rfl ⟨rfl, rfl, Nat.le_of_ble_eq_true rfl, Nat.le_of_ble_eq_true rfl⟩ ⟨Nat.zero_le _, Nat.zero_le _⟩ (Nat.le_of_ble_eq_true rfl) dX0_stand_108 rfl rfl ?_
        refine J_iinc (i := 2) (q := 3) (v := x18 + 1) (lv1 := [(2, .int (x18 + 1)), (3, .ref (ad 19 r27)), (0, .ref (ad 6 q0)), (1, .ref (ad 11 n1))]) (pc1 := 114) dX0_stand_111 rfl rfl (by decide) rfl rfl ?_
        refine J_goto (tgt := 50) dX0_stand_114 (by decide) ?_
        refine J_sub [2, 3, 0] (lv1 := [(0, .ref (ad 6 q0)), (1, .ref (ad 11 n1)), (2, .int (x18 + 1))]) rfl ?_
        exact ihrec20 _ _ h
def mX0_countDown (nc : Nat) (q0 : Nat) (n1 : Nat) (μ : gM) : Option (Int32 × gM) :=
  if (μ 11 n1 5) = 0 then
    some (0, μ)
  else
    gJon (fun (u12 : Unit) =>
        gLet (α := gM) (w3 μ 11 n1 10 ((μ 11 n1 10) - 1)) fun μ3 =>
        if (μ3 11 n1 10) = 0 then
          if (μ3 11 n1 6) = 2 then
            gLet (α := gM) (w3 μ3 11 n1 10 3) fun μ7 =>
            some (3, μ7)
          else
            gBd (mX0_stand nc q0 n1 μ3) fun r10 μ11 =>
            some (r10, μ11)
        else
          some (0, μ3)) fun j2 =>
    if (μ 11 n1 6) = 2 then
      j2 () 
    else
      gBp (mX4_isMember nc n1 μ) fun r15 =>
      if r15 = 0 then
        some (0, μ)
      else
        j2 () 
set_option maxHeartbeats 4000000 in
set_option maxRecDepth 100000 in
theorem kX0_countDown (l : Launch) (D : va_G) (tc : Nat → ClassId) (sa : Nat → Nat) (ad : Nat → Nat → Nat) (nc : Nat) (hnc : 0 < nc ∧ nc ≤ 2) (hI : gI (gE_C nc) ad) (q0 : Nat) (hq0 : q0 < nc) (n1 : Nat) (hn1 : n1 < 5 * nc) (μ : gM) (r : Int32) (μ' : gM) (h : mX0_countDown nc q0 n1 μ = some (r, μ')) : gMet l yX0_countDown cX0_countDown 2 (some .int) ({ frames := 3, cells := 0, slots := 0, locals := 67 } : Room) D (gE_C nc) gkd_C tc ad (grh_C nc) sa [.ref (ad 6 q0), .ref (ad 11 n1)] μ (some (.int r)) μ' := by
  refine gMet_of hI ⟨by decide +kernel, Nat.le_of_ble_eq_true rfl⟩ (fun p e s m args below meth c sz hr hlk => ?_)
  unfold mX0_countDown at h
  show JC p l e ({ frames := 3, cells := 0, slots := 0, locals := 67 } : Room) s m args below meth c cX0_countDown 2 RX0 D tc sa ad nc sz (some (.int r)) μ' μ 0 [(0, .ref (ad 6 q0)), (1, .ref (ad 11 n1))] []
  refine J_aload_n (i := 1) (q := 1) (pc1 := 1) dX0_countDown_0 rfl rfl rfl ?_
  refine J_getI (T := TX4) (pc1 := 4) (eC11 hn1) rfl rfl inX4 5 (by decide) rfl flX0_109 rfl dX0_countDown_1 rfl ?_
  refine J_if_eq (tgt := 22) (pc1 := 7) dX0_countDown_4 (by decide) (fun q1 => ?_) rfl (fun q1 => ?_)
  · rw [if_pos q1] at h
    refine J_iconst (v := 0) (pc1 := 23) dX0_countDown_22 (by decide) rfl ?_
    cases h
    exact J_iret hr hlk dX0_countDown_23
  · rw [if_neg q1] at h
    refine J_aload_n (i := 1) (q := 1) (pc1 := 8) dX0_countDown_7 rfl rfl rfl ?_
    refine J_getI (T := TX4) (pc1 := 11) (eC11 hn1) rfl rfl inX4 6 (by decide) rfl flX0_145 rfl dX0_countDown_8 rfl ?_
    refine J_iconst (v := 2) (pc1 := 12) dX0_countDown_11 (by decide) rfl ?_
    obtain ⟨j2, ej2, h⟩ := gJon_s h
    have kj2 : ∀ (u12 : Unit), j2 u12 = some (r, μ') → JC p l e ({ frames := 3, cells := 0, slots := 0, locals := 67 } : Room) s m args below meth c cX0_countDown 2 RX0 D tc sa ad nc sz (some (.int r)) μ' μ 24 [(0, .ref (ad 6 q0)), (1, .ref (ad 11 n1))] [] := by
      intro u12 h
      rw [ej2] at h
      try dsimp only at h
      refine J_aload_n (i := 1) (q := 1) (pc1 := 25) dX0_countDown_24 rfl rfl rfl ?_
      refine J_dup (pc1 := 26) dX0_countDown_25 rfl rfl ?_
      refine J_getI (T := TX4) (pc1 := 29) (eC11 hn1) rfl rfl inX4 10 (by decide) rfl flX0_142 rfl dX0_countDown_26 rfl ?_
      refine J_iconst (v := 1) (pc1 := 30) dX0_countDown_29 (by decide) rfl ?_
      refine J_isub (pc1 := 31) dX0_countDown_30 rfl ?_
      refine J_putI (T := TX4) (pc1 := 34) (eC11 hn1) rfl rfl inX4 tyX4 tyX4_ok nmX4 10 (by decide) rfl (fun _ _ _ _ => gh11) flX0_142 rfl rfl rfl rfl dX0_countDown_31 rfl ?_
      obtain ⟨μ3, e4, h⟩ := gLet_s h
      rw [← e4]
      clear e4
      refine J_aload_n (i := 1) (q := 1) (pc1 := 35) dX0_countDown_34 rfl rfl rfl ?_
      refine J_getI (T := TX4) (pc1 := 38) (eC11 hn1) rfl rfl inX4 10 (by decide) rfl flX0_142 rfl dX0_countDown_35 rfl ?_
      refine J_if_eq (tgt := 43) (pc1 := 41) dX0_countDown_38 (by decide) (fun q5 => ?_) rfl (fun q5 => ?_)
      · rw [if_pos q5] at h
        refine J_aload_n (i := 1) (q := 1) (pc1 := 44) dX0_countDown_43 rfl rfl rfl ?_
        refine J_getI (T := TX4) (pc1 := 47) (eC11 hn1) rfl rfl inX4 6 (by decide) rfl flX0_145 rfl dX0_countDown_44 rfl ?_
        refine J_iconst (v := 2) (pc1 := 48) dX0_countDown_47 (by decide) rfl ?_
        refine J_icmp_eq (tgt := 57) (pc1 := 51) dX0_countDown_48 (by decide) (fun q6 => ?_) rfl (fun q6 => ?_)
        · rw [if_pos q6] at h
          refine J_aload_n (i := 1) (q := 1) (pc1 := 58) dX0_countDown_57 rfl rfl rfl ?_
          refine J_iconst (v := 3) (pc1 := 59) dX0_countDown_58 (by decide) rfl ?_
          refine J_putI (T := TX4) (pc1 := 62) (eC11 hn1) rfl rfl inX4 tyX4 tyX4_ok nmX4 10 (by decide) rfl (fun _ _ _ _ => gh11) flX0_142 rfl rfl rfl rfl dX0_countDown_59 rfl ?_
          obtain ⟨μ7, e8, h⟩ := gLet_s h
          rw [← e8]
          clear e8
          refine J_iconst (v := 3) (pc1 := 63) dX0_countDown_62 (by decide) rfl ?_
          cases h
          exact J_iret hr hlk dX0_countDown_63
        · rw [if_neg q6] at h
          refine J_aload_n (i := 0) (q := 0) (pc1 := 52) dX0_countDown_51 rfl rfl rfl ?_
          refine J_aload_n (i := 1) (q := 1) (pc1 := 53) dX0_countDown_52 rfl rfl rfl ?_
          obtain ⟨r10, μ11, hc9, h⟩ := gBd_s h
          refine J_callV (As := [.ref (ad 11 n1)]) (ad := ad) (f := 6) (i := q0) (st := []) (st1 := [.int r10]) (pc1 := 56) (kX0_stand l D tc sa ad nc hnc hI q0 hq0 n1 hn1 μ3 r10 μ11 hc9) wcX0_stand wlX0_152 (eC6 hq0) rfl rfl rfl ⟨rfl, rfl, Nat.le_of_ble_eq_true rfl, Nat.le_of_ble_eq_true rfl⟩ ⟨Nat.zero_le _, Nat.zero_le _⟩ (Nat.le_of_ble_eq_true rfl) dX0_countDown_53 rfl rfl ?_
          cases h
          exact J_iret hr hlk dX0_countDown_56
      · rw [if_neg q5] at h
        refine J_iconst (v := 0) (pc1 := 42) dX0_countDown_41 (by decide) rfl ?_
        cases h
        exact J_iret hr hlk dX0_countDown_42
    clear ej2
    refine J_icmp_eq (tgt := 24) (pc1 := 15) dX0_countDown_12 (by decide) (fun q13 => ?_) rfl (fun q13 => ?_)
    · rw [if_pos q13] at h
      exact kj2 ()  h
    · rw [if_neg q13] at h
      refine J_aload_n (i := 1) (q := 1) (pc1 := 16) dX0_countDown_15 rfl rfl rfl ?_
      obtain ⟨r15, hc14, h⟩ := gBp_s h
      refine J_callV (As := []) (ad := ad) (f := 11) (i := n1) (st := []) (st1 := [.int r15]) (pc1 := 19) (kX4_isMember l D tc sa ad nc hnc hI n1 hn1 μ r15 hc14) wcX4_isMember wlX0_148 (eC11 hn1) rfl rfl rfl ⟨rfl, rfl, Nat.le_of_ble_eq_true rfl, Nat.le_of_ble_eq_true rfl⟩ ⟨Nat.zero_le _, Nat.zero_le _⟩ (Nat.le_of_ble_eq_true rfl) dX0_countDown_16 rfl rfl ?_
      refine J_if_ne (tgt := 24) (pc1 := 22) dX0_countDown_19 (by decide) (fun q16 => ?_) rfl (fun q16 => ?_)
      · rw [if_neg q16] at h
        exact kj2 ()  h
      · rw [if_pos q16] at h
        refine J_iconst (v := 0) (pc1 := 23) dX0_countDown_22 (by decide) rfl ?_
        cases h
        exact J_iret hr hlk dX0_countDown_23
def mX0_advance (nc : Nat) (q0 : Nat) (a1 : Int32) (μ : gM) : Option gM :=
  gJon (fun (μ1 : gM) =>
      some μ1) fun j2 =>
  gFx2 (fun rec5 (x3 : Int32) (μ4 : gM) =>
      if a1 ≤ x3 then
        j2 μ4
      else
        gLet (α := gM) (w3 μ4 6 q0 4 ((μ4 6 q0 4) + 1)) fun μ7 =>
        gLet (α := Int32) (μ7 9 q0 3) fun x9 =>
        gJon (fun (μ13 : gM) =>
            gJon (fun (μ15 : gM) =>
                rec5 (x3 + 1) μ15) fun j16 =>
            gFx2 (fun rec19 (x17 : Int32) (μ18 : gM) =>
                if 5 ≤ x17 then
                  j16 μ18
                else
                  gChk (inb x17 5) <|
                  gChk (inb x17 5) <|
                  gBd (mX0_countDown nc q0 (5 * q0 + (x17.toNatClampNeg)) μ18) fun r24 μ25 =>
                  gBp (mX0_finish nc q0 (5 * q0 + (x17.toNatClampNeg)) r24 μ25) fun μ27 =>
                  rec19 (x17 + 1) μ27) 1000000 0 μ13) fun j14 =>
        gFx3 (fun rec31 (x28 : Int32) (x29 : Int32) (μ30 : gM) =>
            if x29 ≤ 0 then
              j14 μ30
            else
              gBp (mX3_isDue nc q0 x28 (μ30 6 q0 4) μ30) fun r34 =>
              if r34 = 0 then
                rec31 (x28 + 1) (x29 + (-1)) μ30
              else
                gBp (mX3_remove nc q0 x28 μ30) fun μ37 =>
                gLet (α := Nat) ((μ37 9 q0 2).toNatClampNeg) fun t38 =>
                gChk (t38 < 42 * nc) <|
                gBp (mX6_isNode nc (μ37 19 t38 5) μ37) fun r42 =>
                if r42 = 0 then
                  rec31 x28 (x29 + (-1)) μ37
                else
                  gBp (mX6_isNode nc (μ37 19 t38 6) μ37) fun r45 =>
                  if r45 = 0 then
                    rec31 x28 (x29 + (-1)) μ37
                  else
                    gChk (inb (μ37 19 t38 6) 5) <|
                    gChk (inb (μ37 19 t38 6) 5) <|
                    gBd (mX0_receive nc q0 (5 * q0 + ((μ37 19 t38 6).toNatClampNeg)) t38 μ37) fun r50 μ51 =>
                    gBp (mX0_finish nc q0 (5 * q0 + ((μ37 19 t38 6).toNatClampNeg)) r50 μ51) fun μ53 =>
                    rec31 x28 (x29 + (-1)) μ53) 1000000 0 x9 μ7) 1000000 0 μ
set_option maxHeartbeats 4000000 in
set_option maxRecDepth 100000 in
theorem kX0_advance (l : Launch) (D : va_G) (tc : Nat → ClassId) (sa : Nat → Nat) (ad : Nat → Nat → Nat) (nc : Nat) (hnc : 0 < nc ∧ nc ≤ 2) (hI : gI (gE_C nc) ad) (q0 : Nat) (hq0 : q0 < nc) (a1 : Int32) (μ : gM) (μ' : gM) (h : mX0_advance nc q0 a1 μ = some μ') : gMet l yX0_advance cX0_advance 6 (none) ({ frames := 5, cells := 0, slots := 0, locals := 167 } : Room) D (gE_C nc) gkd_C tc ad (grh_C nc) sa [.ref (ad 6 q0), .int a1] μ (none) μ' := by
  refine gMet_of hI ⟨by decide +kernel, Nat.le_of_ble_eq_true rfl⟩ (fun p e s m args below meth c sz hr hlk => ?_)
  unfold mX0_advance at h
  show JC p l e ({ frames := 5, cells := 0, slots := 0, locals := 167 } : Room) s m args below meth c cX0_advance 6 RX0 D tc sa ad nc sz (none) μ' μ 0 [(0, .ref (ad 6 q0)), (1, .int a1)] []
  refine J_iconst (v := 0) (pc1 := 1) dX0_advance_0 (by decide) rfl ?_
  refine J_istore_n (i := 2) (lv1 := [(2, .int 0), (0, .ref (ad 6 q0)), (1, .int a1)]) (pc1 := 2) dX0_advance_1 rfl (by decide) rfl rfl ?_
  obtain ⟨j2, ej2, h⟩ := gJon_s h
  have kj2 : ∀ (μ1 : gM), j2 μ1 = some μ' → JC p l e ({ frames := 5, cells := 0, slots := 0, locals := 167 } : Room) s m args below meth c cX0_advance 6 RX0 D tc sa ad nc sz (none) μ' μ1 172 [] [] := by
    intro μ1 h
    rw [ej2] at h
    try dsimp only at h
    cases h
    exact J_vret hr hlk dX0_advance_172
  clear ej2
  refine J_sub [1, 2, 0] (lv1 := [(0, .ref (ad 6 q0)), (1, .int a1), (2, .int 0)]) rfl ?_
  refine gFx2_s (P := fun x3 μ4 => JC p l e ({ frames := 5, cells := 0, slots := 0, locals := 167 } : Room) s m args below meth c cX0_advance 6 RX0 D tc sa ad nc sz (none) μ' μ4 2 [(0, .ref (ad 6 q0)), (1, .int a1), (2, .int x3)] []) (fun rec5 ihrec5 x3 μ4 h => ?_) _ _ _ h
  try dsimp only at h
  refine J_iload_n (i := 2) (q := 2) (pc1 := 3) dX0_advance_2 rfl rfl rfl ?_
  refine J_iload_n (i := 1) (q := 1) (pc1 := 4) dX0_advance_3 rfl rfl rfl ?_
  refine J_icmp_ge (tgt := 172) (pc1 := 7) dX0_advance_4 (by decide) (fun q6 => ?_) rfl (fun q6 => ?_)
  · rw [if_pos q6] at h
    refine J_sub [] (lv1 := []) rfl ?_
    exact kj2 _ h
  · rw [if_neg q6] at h
    refine J_aload_n (i := 0) (q := 0) (pc1 := 8) dX0_advance_7 rfl rfl rfl ?_
    refine J_dup (pc1 := 9) dX0_advance_8 rfl rfl ?_
    refine J_getI (T := TX0) (pc1 := 12) (eC6 hq0) rfl rfl inX0 4 (by decide) rfl flX0_35 rfl dX0_advance_9 rfl ?_
    refine J_iconst (v := 1) (pc1 := 13) dX0_advance_12 (by decide) rfl ?_
    refine J_iadd (pc1 := 14) dX0_advance_13 rfl ?_
    refine J_putI (T := TX0) (pc1 := 17) (eC6 hq0) rfl rfl inX0 tyX0 tyX0_ok nmX0 4 (by decide) rfl (fun _ _ _ _ => gh6) flX0_35 rfl rfl rfl rfl dX0_advance_14 rfl ?_
    obtain ⟨μ7, e8, h⟩ := gLet_s h
    rw [← e8]
    clear e8
    refine J_iconst (v := 0) (pc1 := 18) dX0_advance_17 (by decide) rfl ?_
    refine J_istore_n (i := 3) (lv1 := [(3, .int 0), (0, .ref (ad 6 q0)), (1, .int a1), (2, .int x3)]) (pc1 := 19) dX0_advance_18 rfl (by decide) rfl rfl ?_
    refine J_aload_n (i := 0) (q := 1) (pc1 := 20) dX0_advance_19 rfl rfl rfl ?_
    refine J_getR (T := TX0) (f' := 9) (i' := q0) (pc1 := 23) (eC6 hq0) rfl rfl inX0 1 (by decide) rfl rfl flX0_23 rfl dX0_advance_20 rfl ?_
    refine J_getI (T := TX3) (pc1 := 26) (eC9 hq0) rfl rfl inX3 3 (by decide) rfl flX0_71 rfl dX0_advance_23 rfl ?_
    obtain ⟨x9, e11, h⟩ := gLet_s h
    refine J_top (fun y10 e12 => ?_)
    have e12x : x9 = y10 := (e12.trans e11.symm).symm
    subst e12x
    refine J_istore (i := 4) (lv1 := [(4, .int x9), (3, .int 0), (0, .ref (ad 6 q0)), (1, .int a1), (2, .int x3)]) (pc1 := 28) dX0_advance_26 (by decide) rfl rfl ?_
    obtain ⟨j14, ej14, h⟩ := gJon_s h
    have kj14 : ∀ (μ13 : gM), j14 μ13 = some μ' → JC p l e ({ frames := 5, cells := 0, slots := 0, locals := 167 } : Room) s m args below meth c cX0_advance 6 RX0 D tc sa ad nc sz (none) μ' μ13 129 [(0, .ref (ad 6 q0)), (1, .int a1), (2, .int x3)] [] := by
      intro μ13 h
      rw [ej14] at h
      try dsimp only at h
      refine J_iconst (v := 0) (pc1 := 130) dX0_advance_129 (by decide) rfl ?_
      refine J_istore (i := 4) (lv1 := [(4, .int 0), (0, .ref (ad 6 q0)), (1, .int a1), (2, .int x3)]) (pc1 := 132) dX0_advance_130 (by decide) rfl rfl ?_
      obtain ⟨j16, ej16, h⟩ := gJon_s h
      have kj16 : ∀ (μ15 : gM), j16 μ15 = some μ' → JC p l e ({ frames := 5, cells := 0, slots := 0, locals := 167 } : Room) s m args below meth c cX0_advance 6 RX0 D tc sa ad nc sz (none) μ' μ15 166 [(0, .ref (ad 6 q0)), (1, .int a1), (2, .int x3)] [] := by
        intro μ15 h
        rw [ej16] at h
        try dsimp only at h
        refine J_iinc (i := 2) (q := 2) (v := x3 + 1) (lv1 := [(2, .int (x3 + 1)), (0, .ref (ad 6 q0)), (1, .int a1)]) (pc1 := 169) dX0_advance_166 rfl rfl (by decide) rfl rfl ?_
        refine J_goto (tgt := 2) dX0_advance_169 (by decide) ?_
        refine J_sub [1, 2, 0] (lv1 := [(0, .ref (ad 6 q0)), (1, .int a1), (2, .int (x3 + 1))]) rfl ?_
        exact ihrec5 _ _ h
      clear ej16
      refine J_sub [1, 2, 3, 0] (lv1 := [(0, .ref (ad 6 q0)), (1, .int a1), (2, .int x3), (4, .int 0)]) rfl ?_
      refine gFx2_s (P := fun x17 μ18 => JC p l e ({ frames := 5, cells := 0, slots := 0, locals := 167 } : Room) s m args below meth c cX0_advance 6 RX0 D tc sa ad nc sz (none) μ' μ18 132 [(0, .ref (ad 6 q0)), (1, .int a1), (2, .int x3), (4, .int x17)] []) (fun rec19 ihrec19 x17 μ18 h => ?_) _ _ _ h
      try dsimp only at h
      refine J_iload (i := 4) (q := 3) (pc1 := 134) dX0_advance_132 rfl rfl ?_
      refine J_iconst (v := 5) (pc1 := 135) dX0_advance_134 (by decide) rfl ?_
      refine J_icmp_ge (tgt := 166) (pc1 := 138) dX0_advance_135 (by decide) (fun q20 => ?_) rfl (fun q20 => ?_)
      · rw [if_pos q20] at h
        refine J_sub [0, 1, 2] (lv1 := [(0, .ref (ad 6 q0)), (1, .int a1), (2, .int x3)]) rfl ?_
        exact kj16 _ h
      · rw [if_neg q20] at h
        refine J_aload_n (i := 0) (q := 0) (pc1 := 139) dX0_advance_138 rfl rfl rfl ?_
        refine J_aload_n (i := 0) (q := 0) (pc1 := 140) dX0_advance_139 rfl rfl rfl ?_
        refine J_getR (T := TX0) (f' := 7) (i' := q0) (pc1 := 143) (eC6 hq0) rfl rfl inX0 0 (by decide) rfl rfl flX0_11 rfl dX0_advance_140 rfl ?_
        refine J_iload (i := 4) (q := 3) (pc1 := 145) dX0_advance_143 rfl rfl ?_
        obtain ⟨h21, h⟩ := gChk_s h
        refine J_aald (f' := 11) (i' := (5 * q0 + (x17.toNatClampNeg))) (pc1 := 146) (eC7 hq0) rfl rfl h21 rfl dX0_advance_145 rfl ?_
        refine J_aload_n (i := 0) (q := 0) (pc1 := 147) dX0_advance_146 rfl rfl rfl ?_
        refine J_aload_n (i := 0) (q := 0) (pc1 := 148) dX0_advance_147 rfl rfl rfl ?_
        refine J_getR (T := TX0) (f' := 7) (i' := q0) (pc1 := 151) (eC6 hq0) rfl rfl inX0 0 (by decide) rfl rfl flX0_11 rfl dX0_advance_148 rfl ?_
        refine J_iload (i := 4) (q := 3) (pc1 := 153) dX0_advance_151 rfl rfl ?_
        obtain ⟨h22, h⟩ := gChk_s h
        refine J_aald (f' := 11) (i' := (5 * q0 + (x17.toNatClampNeg))) (pc1 := 154) (eC7 hq0) rfl rfl h22 rfl dX0_advance_153 rfl ?_
        obtain ⟨r24, μ25, hc23, h⟩ := gBd_s h
        refine J_callV (As := [.ref (ad 11 (5 * q0 + (x17.toNatClampNeg)))]) (ad := ad) (f := 6) (i := q0) (st := [.ref (ad 11 (5 * q0 + (x17.toNatClampNeg))), .ref (ad 6 q0)]) (st1 := [.int r24, .ref (ad 11 (5 * q0 + (x17.toNatClampNeg))), .ref (ad 6 q0)]) (pc1 := 157) (kX0_countDown l D tc sa ad nc hnc hI q0 hq0 (5 * q0 + (x17.toNatClampNeg)) (gRep hq0 h22) μ18 r24 μ25 hc23) wcX0_countDown wlX0_105 (eC6 hq0) rfl rfl rfl ⟨rfl, rfl, Nat.le_of_ble_eq_true rfl, Nat.le_of_ble_eq_true rfl⟩ ⟨Nat.zero_le _, Nat.zero_le _⟩ (Nat.le_of_ble_eq_true rfl) dX0_advance_154 rfl rfl ?_
        obtain ⟨μ27, hc26, h⟩ := gBp_s h
        refine J_callV (As := [.ref (ad 11 (5 * q0 + (x17.toNatClampNeg))), .int r24]) (ad := ad) (f := 6) (i := q0) (st := []) (st1 := []) (pc1 := 160) (kX0_finish l D tc sa ad nc hnc hI q0 hq0 (5 * q0 + (x17.toNatClampNeg)) (gRep hq0 h21) r24 μ25 μ27 hc26) wcX0_finish wlX0_101 (eC6 hq0) rfl rfl rfl ⟨rfl, rfl, Nat.le_of_ble_eq_true rfl, Nat.le_of_ble_eq_true rfl⟩ ⟨Nat.zero_le _, Nat.zero_le _⟩ (Nat.le_of_ble_eq_true rfl) dX0_advance_157 rfl rfl ?_
        refine J_iinc (i := 4) (q := 3) (v := x17 + 1) (lv1 := [(4, .int (x17 + 1)), (0, .ref (ad 6 q0)), (1, .int a1), (2, .int x3)]) (pc1 := 163) dX0_advance_160 rfl rfl (by decide) rfl rfl ?_
        refine J_goto (tgt := 132) dX0_advance_163 (by decide) ?_
        refine J_sub [1, 2, 3, 0] (lv1 := [(0, .ref (ad 6 q0)), (1, .int a1), (2, .int x3), (4, .int (x17 + 1))]) rfl ?_
        exact ihrec19 _ _ h
    clear ej14
    refine J_sub [2, 3, 4, 1, 0] (lv1 := [(0, .ref (ad 6 q0)), (1, .int a1), (2, .int x3), (3, .int 0), (4, .int x9)]) rfl ?_
    refine gFx3_s (P := fun x28 x29 μ30 => JC p l e ({ frames := 5, cells := 0, slots := 0, locals := 167 } : Room) s m args below meth c cX0_advance 6 RX0 D tc sa ad nc sz (none) μ' μ30 28 [(0, .ref (ad 6 q0)), (1, .int a1), (2, .int x3), (3, .int x28), (4, .int x29)] []) (fun rec31 ihrec31 x28 x29 μ30 h => ?_) _ _ _ _ h
    try dsimp only at h
    refine J_iload (i := 4) (q := 4) (pc1 := 30) dX0_advance_28 rfl rfl ?_
    refine J_if_le (tgt := 129) (pc1 := 33) dX0_advance_30 (by decide) (fun q32 => ?_) rfl (fun q32 => ?_)
    · rw [if_pos q32] at h
      refine J_sub [0, 1, 2] (lv1 := [(0, .ref (ad 6 q0)), (1, .int a1), (2, .int x3)]) rfl ?_
      exact kj14 _ h
    · rw [if_neg q32] at h
      refine J_aload_n (i := 0) (q := 0) (pc1 := 34) dX0_advance_33 rfl rfl rfl ?_
      refine J_getR (T := TX0) (f' := 9) (i' := q0) (pc1 := 37) (eC6 hq0) rfl rfl inX0 1 (by decide) rfl rfl flX0_23 rfl dX0_advance_34 rfl ?_
      refine J_iload_n (i := 3) (q := 3) (pc1 := 38) dX0_advance_37 rfl rfl rfl ?_
      refine J_aload_n (i := 0) (q := 0) (pc1 := 39) dX0_advance_38 rfl rfl rfl ?_
      refine J_getI (T := TX0) (pc1 := 42) (eC6 hq0) rfl rfl inX0 4 (by decide) rfl flX0_35 rfl dX0_advance_39 rfl ?_
      obtain ⟨r34, hc33, h⟩ := gBp_s h
      refine J_callV (As := [.int x28, .int (μ30 6 q0 4)]) (ad := ad) (f := 9) (i := q0) (st := []) (st1 := [.int r34]) (pc1 := 45) (kX3_isDue l D tc sa ad nc hnc hI q0 hq0 x28 (μ30 6 q0 4) μ30 r34 hc33) wcX3_isDue wlX0_74 (eC9 hq0) rfl rfl rfl ⟨rfl, rfl, Nat.le_of_ble_eq_true rfl, Nat.le_of_ble_eq_true rfl⟩ ⟨Nat.zero_le _, Nat.zero_le _⟩ (Nat.le_of_ble_eq_true rfl) dX0_advance_42 rfl rfl ?_
      refine J_if_ne (tgt := 54) (pc1 := 48) dX0_advance_45 (by decide) (fun q35 => ?_) rfl (fun q35 => ?_)
      · rw [if_neg q35] at h
        refine J_aload_n (i := 0) (q := 0) (pc1 := 55) dX0_advance_54 rfl rfl rfl ?_
        refine J_getR (T := TX0) (f' := 9) (i' := q0) (pc1 := 58) (eC6 hq0) rfl rfl inX0 1 (by decide) rfl rfl flX0_23 rfl dX0_advance_55 rfl ?_
        refine J_iload_n (i := 3) (q := 3) (pc1 := 59) dX0_advance_58 rfl rfl rfl ?_
        obtain ⟨μ37, hc36, h⟩ := gBp_s h
        refine J_callV (As := [.int x28]) (ad := ad) (f := 9) (i := q0) (st := []) (st1 := []) (pc1 := 62) (kX3_remove l D tc sa ad nc hnc hI q0 hq0 x28 μ30 μ37 hc36) wcX3_remove wlX0_78 (eC9 hq0) rfl rfl rfl ⟨rfl, rfl, Nat.le_of_ble_eq_true rfl, Nat.le_of_ble_eq_true rfl⟩ ⟨Nat.zero_le _, Nat.zero_le _⟩ (Nat.le_of_ble_eq_true rfl) dX0_advance_59 rfl rfl ?_
        refine J_aload_n (i := 0) (q := 0) (pc1 := 63) dX0_advance_62 rfl rfl rfl ?_
        refine J_getR (T := TX0) (f' := 9) (i' := q0) (pc1 := 66) (eC6 hq0) rfl rfl inX0 1 (by decide) rfl rfl flX0_23 rfl dX0_advance_63 rfl ?_
        obtain ⟨t38, e39, h⟩ := gLet_s h
        obtain ⟨h40, h⟩ := gChk_s h
        refine J_getR (T := TX3) (f' := 19) (i' := t38) (pc1 := 69) (eC9 hq0) rfl rfl inX3 2 (by decide) rfl (by rw [e39]; rfl) flX0_81 rfl dX0_advance_66 rfl ?_
        refine J_astore (i := 5) (lv1 := [(5, .ref (ad 19 t38)), (0, .ref (ad 6 q0)), (1, .int a1), (2, .int x3), (3, .int x28), (4, .int x29)]) (pc1 := 71) dX0_advance_69 (by decide) rfl rfl ?_
        refine J_aload (i := 5) (q := 0) (pc1 := 73) dX0_advance_71 rfl rfl ?_
        refine J_getI (T := TX2) (pc1 := 76) (eC19 h40) rfl rfl inX2 5 (by decide) rfl flX0_85 rfl dX0_advance_73 rfl ?_
        obtain ⟨r42, hc41, h⟩ := gBp_s h
        refine J_callSN (As := [.int (μ37 19 t38 5)]) (st := []) (st1 := [.int r42]) (pc1 := 79) (kX6_isNode l D tc sa ad nc hnc hI (μ37 19 t38 5) μ37 r42 hc41) wcX6_isNode (fun _ h => h.2.1) rfl ⟨rfl, rfl, Nat.le_of_ble_eq_true rfl, Nat.le_of_ble_eq_true rfl⟩ ⟨Nat.zero_le _, Nat.zero_le _⟩ (Nat.le_of_ble_eq_true rfl) dX0_advance_76 rfl rfl ?_
        refine J_if_eq (tgt := 123) (pc1 := 82) dX0_advance_79 (by decide) (fun q43 => ?_) rfl (fun q43 => ?_)
        · rw [if_pos q43] at h
          refine J_iinc (i := 4) (q := 5) (v := x29 + (-1)) (lv1 := [(4, .int (x29 + (-1))), (5, .ref (ad 19 t38)), (0, .ref (ad 6 q0)), (1, .int a1), (2, .int x3), (3, .int x28)]) (pc1 := 126) dX0_advance_123 rfl rfl (by decide) rfl rfl ?_
          refine J_goto (tgt := 28) dX0_advance_126 (by decide) ?_
          refine J_sub [2, 3, 4, 5, 0] (lv1 := [(0, .ref (ad 6 q0)), (1, .int a1), (2, .int x3), (3, .int x28), (4, .int (x29 + (-1)))]) rfl ?_
          exact ihrec31 _ _ _ h
        · rw [if_neg q43] at h
          refine J_aload (i := 5) (q := 0) (pc1 := 84) dX0_advance_82 rfl rfl ?_
          refine J_getI (T := TX2) (pc1 := 87) (eC19 h40) rfl rfl inX2 6 (by decide) rfl flX0_94 rfl dX0_advance_84 rfl ?_
          obtain ⟨r45, hc44, h⟩ := gBp_s h
          refine J_callSN (As := [.int (μ37 19 t38 6)]) (st := []) (st1 := [.int r45]) (pc1 := 90) (kX6_isNode l D tc sa ad nc hnc hI (μ37 19 t38 6) μ37 r45 hc44) wcX6_isNode (fun _ h => h.2.1) rfl ⟨rfl, rfl, Nat.le_of_ble_eq_true rfl, Nat.le_of_ble_eq_true rfl⟩ ⟨Nat.zero_le _, Nat.zero_le _⟩ (Nat.le_of_ble_eq_true rfl) dX0_advance_87 rfl rfl ?_
          refine J_if_eq (tgt := 123) (pc1 := 93) dX0_advance_90 (by decide) (fun q46 => ?_) rfl (fun q46 => ?_)
          · rw [if_pos q46] at h
            refine J_iinc (i := 4) (q := 5) (v := x29 + (-1)) (lv1 := [(4, .int (x29 + (-1))), (5, .ref (ad 19 t38)), (0, .ref (ad 6 q0)), (1, .int a1), (2, .int x3), (3, .int x28)]) (pc1 := 126) dX0_advance_123 rfl rfl (by decide) rfl rfl ?_
            refine J_goto (tgt := 28) dX0_advance_126 (by decide) ?_
            refine J_sub [2, 3, 4, 5, 0] (lv1 := [(0, .ref (ad 6 q0)), (1, .int a1), (2, .int x3), (3, .int x28), (4, .int (x29 + (-1)))]) rfl ?_
            exact ihrec31 _ _ _ h
          · rw [if_neg q46] at h
            refine J_aload_n (i := 0) (q := 1) (pc1 := 94) dX0_advance_93 rfl rfl rfl ?_
            refine J_aload_n (i := 0) (q := 1) (pc1 := 95) dX0_advance_94 rfl rfl rfl ?_
            refine J_getR (T := TX0) (f' := 7) (i' := q0) (pc1 := 98) (eC6 hq0) rfl rfl inX0 0 (by decide) rfl rfl flX0_11 rfl dX0_advance_95 rfl ?_
            refine J_aload (i := 5) (q := 0) (pc1 := 100) dX0_advance_98 rfl rfl ?_
            refine J_getI (T := TX2) (pc1 := 103) (eC19 h40) rfl rfl inX2 6 (by decide) rfl flX0_94 rfl dX0_advance_100 rfl ?_
            obtain ⟨h47, h⟩ := gChk_s h
            refine J_aald (f' := 11) (i' := (5 * q0 + ((μ37 19 t38 6).toNatClampNeg))) (pc1 := 104) (eC7 hq0) rfl rfl h47 rfl dX0_advance_103 rfl ?_
            refine J_aload_n (i := 0) (q := 1) (pc1 := 105) dX0_advance_104 rfl rfl rfl ?_
            refine J_aload_n (i := 0) (q := 1) (pc1 := 106) dX0_advance_105 rfl rfl rfl ?_
            refine J_getR (T := TX0) (f' := 7) (i' := q0) (pc1 := 109) (eC6 hq0) rfl rfl inX0 0 (by decide) rfl rfl flX0_11 rfl dX0_advance_106 rfl ?_
            refine J_aload (i := 5) (q := 0) (pc1 := 111) dX0_advance_109 rfl rfl ?_
            refine J_getI (T := TX2) (pc1 := 114) (eC19 h40) rfl rfl inX2 6 (by decide) rfl flX0_94 rfl dX0_advance_111 rfl ?_
            obtain ⟨h48, h⟩ := gChk_s h
            refine J_aald (f' := 11) (i' := (5 * q0 + ((μ37 19 t38 6).toNatClampNeg))) (pc1 := 115) (eC7 hq0) rfl rfl h48 rfl dX0_advance_114 rfl ?_
            refine J_aload (i := 5) (q := 0) (pc1 := 117) dX0_advance_115 rfl rfl ?_
            obtain ⟨r50, μ51, hc49, h⟩ := gBd_s h
            refine J_callV (As := [.ref (ad 11 (5 * q0 + ((μ37 19 t38 6).toNatClampNeg))), .ref (ad 19 t38)]) (ad := ad) (f := 6) (i := q0) (st := [.ref (ad 11 (5 * q0 + ((μ37 19 t38 6).toNatClampNeg))), .ref (ad 6 q0)]) (st1 := [.int r50, .ref (ad 11 (5 * q0 + ((μ37 19 t38 6).toNatClampNeg))), .ref (ad 6 q0)]) (pc1 := 120) (kX0_receive l D tc sa ad nc hnc hI q0 hq0 (5 * q0 + ((μ37 19 t38 6).toNatClampNeg)) (gRep hq0 h48) t38 h40 μ37 r50 μ51 hc49) wcX0_receive wlX0_97 (eC6 hq0) rfl rfl rfl ⟨rfl, rfl, Nat.le_of_ble_eq_true rfl, Nat.le_of_ble_eq_true rfl⟩ ⟨Nat.zero_le _, Nat.zero_le _⟩ (Nat.le_of_ble_eq_true rfl) dX0_advance_117 rfl rfl ?_
            obtain ⟨μ53, hc52, h⟩ := gBp_s h
            refine J_callV (As := [.ref (ad 11 (5 * q0 + ((μ37 19 t38 6).toNatClampNeg))), .int r50]) (ad := ad) (f := 6) (i := q0) (st := []) (st1 := []) (pc1 := 123) (kX0_finish l D tc sa ad nc hnc hI q0 hq0 (5 * q0 + ((μ37 19 t38 6).toNatClampNeg)) (gRep hq0 h47) r50 μ51 μ53 hc52) wcX0_finish wlX0_101 (eC6 hq0) rfl rfl rfl ⟨rfl, rfl, Nat.le_of_ble_eq_true rfl, Nat.le_of_ble_eq_true rfl⟩ ⟨Nat.zero_le _, Nat.zero_le _⟩ (Nat.le_of_ble_eq_true rfl) dX0_advance_120 rfl rfl ?_
            refine J_iinc (i := 4) (q := 5) (v := x29 + (-1)) (lv1 := [(4, .int (x29 + (-1))), (5, .ref (ad 19 t38)), (0, .ref (ad 6 q0)), (1, .int a1), (2, .int x3), (3, .int x28)]) (pc1 := 126) dX0_advance_123 rfl rfl (by decide) rfl rfl ?_
            refine J_goto (tgt := 28) dX0_advance_126 (by decide) ?_
            refine J_sub [2, 3, 4, 5, 0] (lv1 := [(0, .ref (ad 6 q0)), (1, .int a1), (2, .int x3), (3, .int x28), (4, .int (x29 + (-1)))]) rfl ?_
            exact ihrec31 _ _ _ h
      · rw [if_pos q35] at h
        refine J_iinc (i := 3) (q := 3) (v := x28 + 1) (lv1 := [(3, .int (x28 + 1)), (0, .ref (ad 6 q0)), (1, .int a1), (2, .int x3), (4, .int x29)]) (pc1 := 51) dX0_advance_48 rfl rfl (by decide) rfl rfl ?_
        refine J_goto (tgt := 123) dX0_advance_51 (by decide) ?_
        refine J_iinc (i := 4) (q := 4) (v := x29 + (-1)) (lv1 := [(4, .int (x29 + (-1))), (3, .int (x28 + 1)), (0, .ref (ad 6 q0)), (1, .int a1), (2, .int x3)]) (pc1 := 126) dX0_advance_123 rfl rfl (by decide) rfl rfl ?_
        refine J_goto (tgt := 28) dX0_advance_126 (by decide) ?_
        refine J_sub [2, 3, 4, 1, 0] (lv1 := [(0, .ref (ad 6 q0)), (1, .int a1), (2, .int x3), (3, .int (x28 + 1)), (4, .int (x29 + (-1)))]) rfl ?_
        exact ihrec31 _ _ _ h
def mX0_revive (nc : Nat) (q0 : Nat) (n1 : Nat) (μ : gM) : Option gM :=
  gLet (α := gM) (w3 μ 11 n1 5 1) fun μ1 =>
  gLet (α := gM) (w3 μ1 11 n1 9 (μ1 12 n1 4)) fun μ3 =>
  gBp (mX0_resetTimer nc q0 n1 μ3) fun μ6 =>
  some μ6
set_option maxHeartbeats 4000000 in
set_option maxRecDepth 100000 in
theorem kX0_revive (l : Launch) (D : va_G) (tc : Nat → ClassId) (sa : Nat → Nat) (ad : Nat → Nat → Nat) (nc : Nat) (hnc : 0 < nc ∧ nc ≤ 2) (hI : gI (gE_C nc) ad) (q0 : Nat) (hq0 : q0 < nc) (n1 : Nat) (hn1 : n1 < 5 * nc) (μ : gM) (μ' : gM) (h : mX0_revive nc q0 n1 μ = some μ') : gMet l yX0_revive cX0_revive 2 (none) ({ frames := 1, cells := 0, slots := 0, locals := 22 } : Room) D (gE_C nc) gkd_C tc ad (grh_C nc) sa [.ref (ad 6 q0), .ref (ad 11 n1)] μ (none) μ' := by
  refine gMet_of hI ⟨by decide +kernel, Nat.le_of_ble_eq_true rfl⟩ (fun p e s m args below meth c sz hr hlk => ?_)
  unfold mX0_revive at h
  show JC p l e ({ frames := 1, cells := 0, slots := 0, locals := 22 } : Room) s m args below meth c cX0_revive 2 RX0 D tc sa ad nc sz (none) μ' μ 0 [(0, .ref (ad 6 q0)), (1, .ref (ad 11 n1))] []
  refine J_aload_n (i := 1) (q := 1) (pc1 := 1) dX0_revive_0 rfl rfl rfl ?_
  refine J_iconst (v := 1) (pc1 := 2) dX0_revive_1 (by decide) rfl ?_
  refine J_putI (T := TX4) (pc1 := 5) (eC11 hn1) rfl rfl inX4 tyX4 tyX4_ok nmX4 5 (by decide) rfl (fun _ _ _ _ => gh11) flX0_109 rfl rfl (by decide) (by decide) dX0_revive_2 rfl ?_
  obtain ⟨μ1, e2, h⟩ := gLet_s h
  rw [← e2]
  clear e2
  refine J_aload_n (i := 1) (q := 1) (pc1 := 6) dX0_revive_5 rfl rfl rfl ?_
  refine J_aload_n (i := 1) (q := 1) (pc1 := 7) dX0_revive_6 rfl rfl rfl ?_
  refine J_getR (T := TX4) (f' := 12) (i' := n1) (pc1 := 10) (eC11 hn1) rfl rfl inX4 1 (by decide) rfl rfl flX0_113 rfl dX0_revive_7 rfl ?_
  refine J_getI (T := TX1) (pc1 := 13) (eC12 hn1) rfl rfl inX1 4 (by decide) rfl flX0_117 rfl dX0_revive_10 rfl ?_
  refine J_putI (T := TX4) (pc1 := 16) (eC11 hn1) rfl rfl inX4 tyX4 tyX4_ok nmX4 9 (by decide) rfl (fun _ _ _ _ => gh11) flX0_122 rfl rfl rfl rfl dX0_revive_13 rfl ?_
  obtain ⟨μ3, e4, h⟩ := gLet_s h
  rw [← e4]
  clear e4
  refine J_aload_n (i := 0) (q := 0) (pc1 := 17) dX0_revive_16 rfl rfl rfl ?_
  refine J_aload_n (i := 1) (q := 1) (pc1 := 18) dX0_revive_17 rfl rfl rfl ?_
  obtain ⟨μ6, hc5, h⟩ := gBp_s h
  refine J_callV (As := [.ref (ad 11 n1)]) (ad := ad) (f := 6) (i := q0) (st := []) (st1 := []) (pc1 := 21) (kX0_resetTimer l D tc sa ad nc hnc hI q0 hq0 n1 hn1 μ3 μ6 hc5) wcX0_resetTimer wlX0_55 (eC6 hq0) rfl rfl rfl ⟨rfl, rfl, Nat.le_of_ble_eq_true rfl, Nat.le_of_ble_eq_true rfl⟩ ⟨Nat.zero_le _, Nat.zero_le _⟩ (Nat.le_of_ble_eq_true rfl) dX0_revive_18 rfl rfl ?_
  cases h
  exact J_vret hr hlk dX0_revive_21
def mX0_add (nc : Nat) (q0 : Nat) (n1 : Nat) (a2 : Int32) (a3 : Int32) (μ : gM) : Option (Int32 × gM) :=
  gBp (mX1_lastIndex nc n1 μ) fun r2 =>
  gLet (α := Int32) (r2 + 1) fun x3 =>
  gBd (mX1_append nc n1 (μ 11 n1 7) a2 a3 μ) fun r8 μ9 =>
  gBp (mX0_commit nc q0 n1 μ9) fun μ11 =>
  some (x3, μ11)
set_option maxHeartbeats 4000000 in
set_option maxRecDepth 100000 in
theorem kX0_add (l : Launch) (D : va_G) (tc : Nat → ClassId) (sa : Nat → Nat) (ad : Nat → Nat → Nat) (nc : Nat) (hnc : 0 < nc ∧ nc ≤ 2) (hI : gI (gE_C nc) ad) (q0 : Nat) (hq0 : q0 < nc) (n1 : Nat) (hn1 : n1 < 5 * nc) (a2 : Int32) (a3 : Int32) (μ : gM) (r : Int32) (μ' : gM) (h : mX0_add nc q0 n1 a2 a3 μ = some (r, μ')) : gMet l yX0_add cX0_add 5 (some .int) ({ frames := 4, cells := 0, slots := 0, locals := 88 } : Room) D (gE_C nc) gkd_C tc ad (grh_C nc) sa [.ref (ad 6 q0), .ref (ad 11 n1), .int a2, .int a3] μ (some (.int r)) μ' := by
  refine gMet_of hI ⟨by decide +kernel, Nat.le_of_ble_eq_true rfl⟩ (fun p e s m args below meth c sz hr hlk => ?_)
  unfold mX0_add at h
  show JC p l e ({ frames := 4, cells := 0, slots := 0, locals := 88 } : Room) s m args below meth c cX0_add 5 RX0 D tc sa ad nc sz (some (.int r)) μ' μ 0 [(0, .ref (ad 6 q0)), (1, .ref (ad 11 n1)), (2, .int a2), (3, .int a3)] []
  refine J_aload_n (i := 1) (q := 1) (pc1 := 1) dX0_add_0 rfl rfl rfl ?_
  refine J_getR (T := TX4) (f' := 12) (i' := n1) (pc1 := 4) (eC11 hn1) rfl rfl inX4 1 (by decide) rfl rfl flX0_113 rfl dX0_add_1 rfl ?_
  obtain ⟨r2, hc1, h⟩ := gBp_s h
  refine J_callV (As := []) (ad := ad) (f := 12) (i := n1) (st := []) (st1 := [.int r2]) (pc1 := 7) (kX1_lastIndex l D tc sa ad nc hnc hI n1 hn1 μ r2 hc1) wcX1_lastIndex wlX0_125 (eC12 hn1) rfl rfl rfl ⟨rfl, rfl, Nat.le_of_ble_eq_true rfl, Nat.le_of_ble_eq_true rfl⟩ ⟨Nat.zero_le _, Nat.zero_le _⟩ (Nat.le_of_ble_eq_true rfl) dX0_add_4 rfl rfl ?_
  refine J_iconst (v := 1) (pc1 := 8) dX0_add_7 (by decide) rfl ?_
  refine J_iadd (pc1 := 9) dX0_add_8 rfl ?_
  obtain ⟨x3, e5, h⟩ := gLet_s h
  refine J_top (fun y4 e6 => ?_)
  have e6x : x3 = y4 := (e6.trans e5.symm).symm
  subst e6x
  refine J_istore (i := 4) (lv1 := [(4, .int x3), (0, .ref (ad 6 q0)), (1, .ref (ad 11 n1)), (2, .int a2), (3, .int a3)]) (pc1 := 11) dX0_add_9 (by decide) rfl rfl ?_
  refine J_aload_n (i := 1) (q := 2) (pc1 := 12) dX0_add_11 rfl rfl rfl ?_
  refine J_getR (T := TX4) (f' := 12) (i' := n1) (pc1 := 15) (eC11 hn1) rfl rfl inX4 1 (by decide) rfl rfl flX0_113 rfl dX0_add_12 rfl ?_
  refine J_aload_n (i := 1) (q := 2) (pc1 := 16) dX0_add_15 rfl rfl rfl ?_
  refine J_getI (T := TX4) (pc1 := 19) (eC11 hn1) rfl rfl inX4 7 (by decide) rfl flX0_129 rfl dX0_add_16 rfl ?_
  refine J_iload_n (i := 2) (q := 3) (pc1 := 20) dX0_add_19 rfl rfl rfl ?_
  refine J_iload_n (i := 3) (q := 4) (pc1 := 21) dX0_add_20 rfl rfl rfl ?_
  obtain ⟨r8, μ9, hc7, h⟩ := gBd_s h
  refine J_callV (As := [.int (μ 11 n1 7), .int a2, .int a3]) (ad := ad) (f := 12) (i := n1) (st := []) (st1 := [.int r8]) (pc1 := 24) (kX1_append l D tc sa ad nc hnc hI n1 hn1 (μ 11 n1 7) a2 a3 μ r8 μ9 hc7) wcX1_append wlX0_132 (eC12 hn1) rfl rfl rfl ⟨rfl, rfl, Nat.le_of_ble_eq_true rfl, Nat.le_of_ble_eq_true rfl⟩ ⟨Nat.zero_le _, Nat.zero_le _⟩ (Nat.le_of_ble_eq_true rfl) dX0_add_21 rfl rfl ?_
  refine J_pop (pc1 := 25) dX0_add_24 rfl rfl ?_
  refine J_aload_n (i := 0) (q := 1) (pc1 := 26) dX0_add_25 rfl rfl rfl ?_
  refine J_aload_n (i := 1) (q := 2) (pc1 := 27) dX0_add_26 rfl rfl rfl ?_
  obtain ⟨μ11, hc10, h⟩ := gBp_s h
  refine J_callV (As := [.ref (ad 11 n1)]) (ad := ad) (f := 6) (i := q0) (st := []) (st1 := []) (pc1 := 30) (kX0_commit l D tc sa ad nc hnc hI q0 hq0 n1 hn1 μ9 μ11 hc10) wcX0_commit wlX0_136 (eC6 hq0) rfl rfl rfl ⟨rfl, rfl, Nat.le_of_ble_eq_true rfl, Nat.le_of_ble_eq_true rfl⟩ ⟨Nat.zero_le _, Nat.zero_le _⟩ (Nat.le_of_ble_eq_true rfl) dX0_add_27 rfl rfl ?_
  refine J_iload (i := 4) (q := 0) (pc1 := 32) dX0_add_30 rfl rfl ?_
  cases h
  exact J_iret hr hlk dX0_add_32
