/-! the law's methods that call and catch -/
theorem iniL : Cond.initialized RL ∈ BIG := bigT1 (i := 0) rfl rfl
theorem cwL_start : Cond.codeWith yL_start cL_start 5 (some .int) [(0, 10, 13, 13)] ∈ BIG := bigT2 (i := 232) rfl rfl
theorem stL_start : Cond.static yL_start ∈ BIG := bigT2 (i := 231) rfl rfl
theorem wwL_start : wCw yL_start cL_start 5 [(0, 10, 13, 13)] 4 := ⟨⟨stL_start, iniL, cwL_start⟩, by decide +kernel⟩
theorem imX6_start : Cond.instanceMethod yX6_start ∈ BIG := bigT2 (i := 235) rfl rfl
theorem seX6_start : Cond.selects yX6_start.cls yX6_start yX6_start ∈ BIG := bigT2 (i := 236) rfl rfl
theorem cdX6_start : Cond.code yX6_start cX6_start 3 (some .int) ∈ BIG := bigT2 (i := 237) rfl rfl
theorem wcX6_start : wCv yX6_start cX6_start 3 (some .int) 2 := ⟨⟨imX6_start, seX6_start, iniX6, cdX6_start⟩, by decide +kernel⟩
theorem wlL_7 : Cond.methodLink RL 7 yX6_start ∈ BIG := bigT2 (i := 234) rfl rfl
theorem clL_13 : Cond.classLink RL 13 "java/lang/IllegalArgumentException" ∈ BIG := bigT2 (i := 233) rfl rfl
theorem cwL_tick : Cond.codeWith yL_tick cL_tick 4 (some .int) [(0, 9, 12, 13)] ∈ BIG := bigT3 (i := 81) rfl rfl
theorem stL_tick : Cond.static yL_tick ∈ BIG := bigT3 (i := 80) rfl rfl
theorem wwL_tick : wCw yL_tick cL_tick 4 [(0, 9, 12, 13)] 3 := ⟨⟨stL_tick, iniL, cwL_tick⟩, by decide +kernel⟩
theorem imX6_tick : Cond.instanceMethod yX6_tick ∈ BIG := bigT3 (i := 83) rfl rfl
theorem seX6_tick : Cond.selects yX6_tick.cls yX6_tick yX6_tick ∈ BIG := bigT3 (i := 84) rfl rfl
theorem cdX6_tick : Cond.code yX6_tick cX6_tick 2 (some .int) ∈ BIG := bigT3 (i := 85) rfl rfl
theorem wcX6_tick : wCv yX6_tick cX6_tick 2 (some .int) 1 := ⟨⟨imX6_tick, seX6_tick, iniX6, cdX6_tick⟩, by decide +kernel⟩
theorem wlL_15 : Cond.methodLink RL 15 yX6_tick ∈ BIG := bigT3 (i := 82) rfl rfl
theorem cwL_setDelay : Cond.codeWith yL_setDelay cL_setDelay 4 (some .int) [(0, 9, 12, 13)] ∈ BIG := bigT4 (i := 36) rfl rfl
theorem stL_setDelay : Cond.static yL_setDelay ∈ BIG := bigT4 (i := 35) rfl rfl
theorem wwL_setDelay : wCw yL_setDelay cL_setDelay 4 [(0, 9, 12, 13)] 3 := ⟨⟨stL_setDelay, iniL, cwL_setDelay⟩, by decide +kernel⟩
theorem imX6_setDelay : Cond.instanceMethod yX6_setDelay ∈ BIG := bigT4 (i := 38) rfl rfl
theorem seX6_setDelay : Cond.selects yX6_setDelay.cls yX6_setDelay yX6_setDelay ∈ BIG := bigT4 (i := 39) rfl rfl
theorem cdX6_setDelay : Cond.code yX6_setDelay cX6_setDelay 3 (some .int) ∈ BIG := bigT4 (i := 40) rfl rfl
theorem wcX6_setDelay : wCv yX6_setDelay cX6_setDelay 3 (some .int) 1 := ⟨⟨imX6_setDelay, seX6_setDelay, iniX6, cdX6_setDelay⟩, by decide +kernel⟩
theorem wlL_19 : Cond.methodLink RL 19 yX6_setDelay ∈ BIG := bigT4 (i := 37) rfl rfl
theorem cwL_crash : Cond.codeWith yL_crash cL_crash 4 (some .int) [(0, 9, 12, 26), (0, 9, 15, 31)] ∈ BIG := bigT4 (i := 95) rfl rfl
theorem stL_crash : Cond.static yL_crash ∈ BIG := bigT4 (i := 94) rfl rfl
theorem wwL_crash : wCw yL_crash cL_crash 4 [(0, 9, 12, 26), (0, 9, 15, 31)] 3 := ⟨⟨stL_crash, iniL, cwL_crash⟩, by decide +kernel⟩
theorem imX6_crash : Cond.instanceMethod yX6_crash ∈ BIG := bigT4 (i := 98) rfl rfl
theorem seX6_crash : Cond.selects yX6_crash.cls yX6_crash yX6_crash ∈ BIG := bigT4 (i := 99) rfl rfl
theorem cdX6_crash : Cond.code yX6_crash cX6_crash 3 (some .int) ∈ BIG := bigT4 (i := 100) rfl rfl
theorem wcX6_crash : wCv yX6_crash cX6_crash 3 (some .int) 1 := ⟨⟨imX6_crash, seX6_crash, iniX6, cdX6_crash⟩, by decide +kernel⟩
theorem wlL_28 : Cond.methodLink RL 28 yX6_crash ∈ BIG := bigT4 (i := 97) rfl rfl
theorem clL_26 : Cond.classLink RL 26 "java/lang/IndexOutOfBoundsException" ∈ BIG := bigT4 (i := 45) rfl rfl
theorem clL_31 : Cond.classLink RL 31 "java/lang/IllegalStateException" ∈ BIG := bigT4 (i := 96) rfl rfl
theorem cwL_restart : Cond.codeWith yL_restart cL_restart 4 (some .int) [(0, 9, 12, 26), (0, 9, 15, 31)] ∈ BIG := bigT4 (i := 127) rfl rfl
theorem stL_restart : Cond.static yL_restart ∈ BIG := bigT4 (i := 126) rfl rfl
theorem wwL_restart : wCw yL_restart cL_restart 4 [(0, 9, 12, 26), (0, 9, 15, 31)] 3 := ⟨⟨stL_restart, iniL, cwL_restart⟩, by decide +kernel⟩
theorem imX6_restart : Cond.instanceMethod yX6_restart ∈ BIG := bigT4 (i := 129) rfl rfl
theorem seX6_restart : Cond.selects yX6_restart.cls yX6_restart yX6_restart ∈ BIG := bigT4 (i := 130) rfl rfl
theorem cdX6_restart : Cond.code yX6_restart cX6_restart 3 (some .int) ∈ BIG := bigT4 (i := 131) rfl rfl
theorem wcX6_restart : wCv yX6_restart cX6_restart 3 (some .int) 1 := ⟨⟨imX6_restart, seX6_restart, iniX6, cdX6_restart⟩, by decide +kernel⟩
theorem wlL_33 : Cond.methodLink RL 33 yX6_restart ∈ BIG := bigT4 (i := 128) rfl rfl
theorem cwL_submit : Cond.codeWith yL_submit cL_submit 5 (some .int) [(0, 10, 13, 26), (0, 10, 17, 31), (0, 10, 21, 39)] ∈ BIG := bigT4 (i := 140) rfl rfl
theorem stL_submit : Cond.static yL_submit ∈ BIG := bigT4 (i := 139) rfl rfl
theorem wwL_submit : wCw yL_submit cL_submit 5 [(0, 10, 13, 26), (0, 10, 17, 31), (0, 10, 21, 39)] 4 := ⟨⟨stL_submit, iniL, cwL_submit⟩, by decide +kernel⟩
theorem imX6_submit : Cond.instanceMethod yX6_submit ∈ BIG := bigT4 (i := 143) rfl rfl
theorem seX6_submit : Cond.selects yX6_submit.cls yX6_submit yX6_submit ∈ BIG := bigT4 (i := 144) rfl rfl
theorem cdX6_submit : Cond.code yX6_submit cX6_submit 4 (some .int) ∈ BIG := bigT4 (i := 145) rfl rfl
theorem wcX6_submit : wCv yX6_submit cX6_submit 4 (some .int) 2 := ⟨⟨imX6_submit, seX6_submit, iniX6, cdX6_submit⟩, by decide +kernel⟩
theorem wlL_36 : Cond.methodLink RL 36 yX6_submit ∈ BIG := bigT4 (i := 142) rfl rfl
theorem clL_39 : Cond.classLink RL 39 "java/lang/UnsupportedOperationException" ∈ BIG := bigT4 (i := 141) rfl rfl
theorem cwL_reconfigure : Cond.codeWith yL_reconfigure cL_reconfigure 5 (some .int) [(0, 10, 13, 26), (0, 10, 17, 13), (0, 10, 21, 31), (0, 10, 25, 39)] ∈ BIG := bigT4 (i := 173) rfl rfl
theorem stL_reconfigure : Cond.static yL_reconfigure ∈ BIG := bigT4 (i := 172) rfl rfl
theorem wwL_reconfigure : wCw yL_reconfigure cL_reconfigure 5 [(0, 10, 13, 26), (0, 10, 17, 13), (0, 10, 21, 31), (0, 10, 25, 39)] 4 := ⟨⟨stL_reconfigure, iniL, cwL_reconfigure⟩, by decide +kernel⟩
theorem imX6_reconfigure : Cond.instanceMethod yX6_reconfigure ∈ BIG := bigT4 (i := 175) rfl rfl
theorem seX6_reconfigure : Cond.selects yX6_reconfigure.cls yX6_reconfigure yX6_reconfigure ∈ BIG := bigT4 (i := 176) rfl rfl
theorem cdX6_reconfigure : Cond.code yX6_reconfigure cX6_reconfigure 4 (some .int) ∈ BIG := bigT4 (i := 177) rfl rfl
theorem wcX6_reconfigure : wCv yX6_reconfigure cX6_reconfigure 4 (some .int) 2 := ⟨⟨imX6_reconfigure, seX6_reconfigure, iniX6, cdX6_reconfigure⟩, by decide +kernel⟩
theorem wlL_41 : Cond.methodLink RL 41 yX6_reconfigure ∈ BIG := bigT4 (i := 174) rfl rfl
theorem cwL_pack : Cond.codeWith yL_pack cL_pack 4 (some .int) [(0, 9, 12, 26), (0, 9, 15, 31)] ∈ BIG := bigT4 (i := 183) rfl rfl
theorem stL_pack : Cond.static yL_pack ∈ BIG := bigT4 (i := 182) rfl rfl
theorem wwL_pack : wCw yL_pack cL_pack 4 [(0, 9, 12, 26), (0, 9, 15, 31)] 3 := ⟨⟨stL_pack, iniL, cwL_pack⟩, by decide +kernel⟩
theorem imX6_pack : Cond.instanceMethod yX6_pack ∈ BIG := bigT4 (i := 185) rfl rfl
theorem seX6_pack : Cond.selects yX6_pack.cls yX6_pack yX6_pack ∈ BIG := bigT4 (i := 186) rfl rfl
theorem cdX6_pack : Cond.code yX6_pack cX6_pack 3 (some .int) ∈ BIG := bigT4 (i := 187) rfl rfl
theorem wcX6_pack : wCv yX6_pack cX6_pack 3 (some .int) 1 := ⟨⟨imX6_pack, seX6_pack, iniX6, cdX6_pack⟩, by decide +kernel⟩
theorem wlL_44 : Cond.methodLink RL 44 yX6_pack ∈ BIG := bigT4 (i := 184) rfl rfl
theorem cwL_read : Cond.codeWith yL_read cL_read 4 (some .int) [(0, 9, 12, 26), (0, 9, 15, 31), (0, 9, 18, 39)] ∈ BIG := bigT4 (i := 198) rfl rfl
theorem stL_read : Cond.static yL_read ∈ BIG := bigT4 (i := 197) rfl rfl
theorem wwL_read : wCw yL_read cL_read 4 [(0, 9, 12, 26), (0, 9, 15, 31), (0, 9, 18, 39)] 3 := ⟨⟨stL_read, iniL, cwL_read⟩, by decide +kernel⟩
theorem imX6_read : Cond.instanceMethod yX6_read ∈ BIG := bigT4 (i := 200) rfl rfl
theorem seX6_read : Cond.selects yX6_read.cls yX6_read yX6_read ∈ BIG := bigT4 (i := 201) rfl rfl
theorem cdX6_read : Cond.code yX6_read cX6_read 3 (some .int) ∈ BIG := bigT4 (i := 202) rfl rfl
theorem wcX6_read : wCv yX6_read cX6_read 3 (some .int) 1 := ⟨⟨imX6_read, seX6_read, iniX6, cdX6_read⟩, by decide +kernel⟩
theorem wlL_47 : Cond.methodLink RL 47 yX6_read ∈ BIG := bigT4 (i := 199) rfl rfl
theorem cwL_node : Cond.codeWith yL_node cL_node 5 (some .int) [(0, 10, 13, 26), (0, 10, 17, 13)] ∈ BIG := bigT4 (i := 221) rfl rfl
theorem stL_node : Cond.static yL_node ∈ BIG := bigT4 (i := 220) rfl rfl
theorem wwL_node : wCw yL_node cL_node 5 [(0, 10, 13, 26), (0, 10, 17, 13)] 4 := ⟨⟨stL_node, iniL, cwL_node⟩, by decide +kernel⟩
theorem imX6_node : Cond.instanceMethod yX6_node ∈ BIG := bigT4 (i := 223) rfl rfl
theorem seX6_node : Cond.selects yX6_node.cls yX6_node yX6_node ∈ BIG := bigT4 (i := 224) rfl rfl
theorem cdX6_node : Cond.code yX6_node cX6_node 4 (some .int) ∈ BIG := bigT4 (i := 225) rfl rfl
theorem wcX6_node : wCv yX6_node cX6_node 4 (some .int) 2 := ⟨⟨imX6_node, seX6_node, iniX6, cdX6_node⟩, by decide +kernel⟩
theorem wlL_50 : Cond.methodLink RL 50 yX6_node ∈ BIG := bigT4 (i := 222) rfl rfl
theorem cwL_noted : Cond.codeWith yL_noted cL_noted 6 (some .int) [(0, 12, 15, 26), (0, 12, 19, 13), (0, 12, 23, 31)] ∈ BIG := bigT4 (i := 231) rfl rfl
theorem stL_noted : Cond.static yL_noted ∈ BIG := bigT4 (i := 230) rfl rfl
theorem wwL_noted : wCw yL_noted cL_noted 6 [(0, 12, 15, 26), (0, 12, 19, 13), (0, 12, 23, 31)] 5 := ⟨⟨stL_noted, iniL, cwL_noted⟩, by decide +kernel⟩
theorem imX6_noted : Cond.instanceMethod yX6_noted ∈ BIG := bigT4 (i := 233) rfl rfl
theorem seX6_noted : Cond.selects yX6_noted.cls yX6_noted yX6_noted ∈ BIG := bigT4 (i := 234) rfl rfl
theorem cdX6_noted : Cond.code yX6_noted cX6_noted 5 (some .int) ∈ BIG := bigT4 (i := 235) rfl rfl
theorem wcX6_noted : wCv yX6_noted cX6_noted 5 (some .int) 3 := ⟨⟨imX6_noted, seX6_noted, iniX6, cdX6_noted⟩, by decide +kernel⟩
theorem wlL_53 : Cond.methodLink RL 53 yX6_noted ∈ BIG := bigT4 (i := 232) rfl rfl
theorem cwL_entry : Cond.codeWith yL_entry cL_entry 6 (some .int) [(0, 12, 15, 26), (0, 12, 19, 13)] ∈ BIG := bigT4 (i := 239) rfl rfl
theorem stL_entry : Cond.static yL_entry ∈ BIG := bigT4 (i := 238) rfl rfl
theorem wwL_entry : wCw yL_entry cL_entry 6 [(0, 12, 15, 26), (0, 12, 19, 13)] 5 := ⟨⟨stL_entry, iniL, cwL_entry⟩, by decide +kernel⟩
theorem imX6_entry : Cond.instanceMethod yX6_entry ∈ BIG := bigT5 (i := 1) rfl rfl
theorem seX6_entry : Cond.selects yX6_entry.cls yX6_entry yX6_entry ∈ BIG := bigT5 (i := 2) rfl rfl
theorem cdX6_entry : Cond.code yX6_entry cX6_entry 5 (some .int) ∈ BIG := bigT5 (i := 3) rfl rfl
theorem wcX6_entry : wCv yX6_entry cX6_entry 5 (some .int) 3 := ⟨⟨imX6_entry, seX6_entry, iniX6, cdX6_entry⟩, by decide +kernel⟩
theorem wlL_57 : Cond.methodLink RL 57 yX6_entry ∈ BIG := bigT5 (i := 0) rfl rfl
theorem cwL_message : Cond.codeWith yL_message cL_message 5 (some .int) [(0, 10, 13, 26), (0, 10, 17, 13)] ∈ BIG := bigT5 (i := 18) rfl rfl
theorem stL_message : Cond.static yL_message ∈ BIG := bigT5 (i := 17) rfl rfl
theorem wwL_message : wCw yL_message cL_message 5 [(0, 10, 13, 26), (0, 10, 17, 13)] 4 := ⟨⟨stL_message, iniL, cwL_message⟩, by decide +kernel⟩
theorem imX6_message : Cond.instanceMethod yX6_message ∈ BIG := bigT5 (i := 20) rfl rfl
theorem seX6_message : Cond.selects yX6_message.cls yX6_message yX6_message ∈ BIG := bigT5 (i := 21) rfl rfl
theorem cdX6_message : Cond.code yX6_message cX6_message 4 (some .int) ∈ BIG := bigT5 (i := 22) rfl rfl
theorem wcX6_message : wCv yX6_message cX6_message 4 (some .int) 2 := ⟨⟨imX6_message, seX6_message, iniX6, cdX6_message⟩, by decide +kernel⟩
theorem wlL_60 : Cond.methodLink RL 60 yX6_message ∈ BIG := bigT5 (i := 19) rfl rfl
theorem cwL_lose : Cond.codeWith yL_lose cL_lose 4 (some .int) [(0, 9, 12, 26)] ∈ BIG := bigT5 (i := 35) rfl rfl
theorem stL_lose : Cond.static yL_lose ∈ BIG := bigT5 (i := 34) rfl rfl
theorem wwL_lose : wCw yL_lose cL_lose 4 [(0, 9, 12, 26)] 3 := ⟨⟨stL_lose, iniL, cwL_lose⟩, by decide +kernel⟩
theorem imX6_lose : Cond.instanceMethod yX6_lose ∈ BIG := bigT5 (i := 37) rfl rfl
theorem seX6_lose : Cond.selects yX6_lose.cls yX6_lose yX6_lose ∈ BIG := bigT5 (i := 38) rfl rfl
theorem cdX6_lose : Cond.code yX6_lose cX6_lose 2 (some .int) ∈ BIG := bigT5 (i := 39) rfl rfl
theorem wcX6_lose : wCv yX6_lose cX6_lose 2 (some .int) 1 := ⟨⟨imX6_lose, seX6_lose, iniX6, cdX6_lose⟩, by decide +kernel⟩
theorem wlL_63 : Cond.methodLink RL 63 yX6_lose ∈ BIG := bigT5 (i := 36) rfl rfl
theorem cwL_leader : Cond.codeWith yL_leader cL_leader 3 (some .int) [(0, 8, 11, 70)] ∈ BIG := bigT5 (i := 43) rfl rfl
theorem stL_leader : Cond.static yL_leader ∈ BIG := bigT5 (i := 42) rfl rfl
theorem wwL_leader : wCw yL_leader cL_leader 3 [(0, 8, 11, 70)] 2 := ⟨⟨stL_leader, iniL, cwL_leader⟩, by decide +kernel⟩
theorem imX6_leader : Cond.instanceMethod yX6_leader ∈ BIG := bigT5 (i := 46) rfl rfl
theorem seX6_leader : Cond.selects yX6_leader.cls yX6_leader yX6_leader ∈ BIG := bigT5 (i := 47) rfl rfl
theorem cdX6_leader : Cond.code yX6_leader cX6_leader 5 (some .int) ∈ BIG := bigT5 (i := 48) rfl rfl
theorem wcX6_leader : wCv yX6_leader cX6_leader 5 (some .int) 0 := ⟨⟨imX6_leader, seX6_leader, iniX6, cdX6_leader⟩, by decide +kernel⟩
theorem wlL_66 : Cond.methodLink RL 66 yX6_leader ∈ BIG := bigT5 (i := 45) rfl rfl
theorem clL_70 : Cond.classLink RL 70 "java/util/NoSuchElementException" ∈ BIG := bigT5 (i := 44) rfl rfl
theorem cwL_winner : Cond.codeWith yL_winner cL_winner 4 (some .int) [(0, 9, 12, 70)] ∈ BIG := bigT5 (i := 67) rfl rfl
theorem stL_winner : Cond.static yL_winner ∈ BIG := bigT5 (i := 66) rfl rfl
theorem wwL_winner : wCw yL_winner cL_winner 4 [(0, 9, 12, 70)] 3 := ⟨⟨stL_winner, iniL, cwL_winner⟩, by decide +kernel⟩
theorem imX6_winner : Cond.instanceMethod yX6_winner ∈ BIG := bigT5 (i := 69) rfl rfl
theorem seX6_winner : Cond.selects yX6_winner.cls yX6_winner yX6_winner ∈ BIG := bigT5 (i := 70) rfl rfl
theorem cdX6_winner : Cond.code yX6_winner cX6_winner 2 (some .int) ∈ BIG := bigT5 (i := 71) rfl rfl
theorem wcX6_winner : wCv yX6_winner cX6_winner 2 (some .int) 1 := ⟨⟨imX6_winner, seX6_winner, iniX6, cdX6_winner⟩, by decide +kernel⟩
theorem wlL_72 : Cond.methodLink RL 72 yX6_winner ∈ BIG := bigT5 (i := 68) rfl rfl
theorem cwL_alike : Cond.codeWith yL_alike cL_alike 5 (some .int) [(0, 10, 13, 26)] ∈ BIG := bigT5 (i := 75) rfl rfl
theorem stL_alike : Cond.static yL_alike ∈ BIG := bigT5 (i := 74) rfl rfl
theorem wwL_alike : wCw yL_alike cL_alike 5 [(0, 10, 13, 26)] 4 := ⟨⟨stL_alike, iniL, cwL_alike⟩, by decide +kernel⟩
theorem imX6_alike : Cond.instanceMethod yX6_alike ∈ BIG := bigT5 (i := 77) rfl rfl
theorem seX6_alike : Cond.selects yX6_alike.cls yX6_alike yX6_alike ∈ BIG := bigT5 (i := 78) rfl rfl
theorem cdX6_alike : Cond.code yX6_alike cX6_alike 7 (some .int) ∈ BIG := bigT5 (i := 79) rfl rfl
theorem wcX6_alike : wCv yX6_alike cX6_alike 7 (some .int) 2 := ⟨⟨imX6_alike, seX6_alike, iniX6, cdX6_alike⟩, by decide +kernel⟩
theorem wlL_75 : Cond.methodLink RL 75 yX6_alike ∈ BIG := bigT5 (i := 76) rfl rfl
theorem cwL_statistic : Cond.codeWith yL_statistic cL_statistic 4 (some .int) [(0, 9, 12, 13)] ∈ BIG := bigT5 (i := 84) rfl rfl
theorem stL_statistic : Cond.static yL_statistic ∈ BIG := bigT5 (i := 83) rfl rfl
theorem wwL_statistic : wCw yL_statistic cL_statistic 4 [(0, 9, 12, 13)] 3 := ⟨⟨stL_statistic, iniL, cwL_statistic⟩, by decide +kernel⟩
theorem imX6_statistic : Cond.instanceMethod yX6_statistic ∈ BIG := bigT5 (i := 86) rfl rfl
theorem seX6_statistic : Cond.selects yX6_statistic.cls yX6_statistic yX6_statistic ∈ BIG := bigT5 (i := 87) rfl rfl
theorem cdX6_statistic : Cond.code yX6_statistic cX6_statistic 2 (some .int) ∈ BIG := bigT5 (i := 88) rfl rfl
theorem wcX6_statistic : wCv yX6_statistic cX6_statistic 2 (some .int) 1 := ⟨⟨imX6_statistic, seX6_statistic, iniX6, cdX6_statistic⟩, by decide +kernel⟩
theorem wlL_78 : Cond.methodLink RL 78 yX6_statistic ∈ BIG := bigT5 (i := 85) rfl rfl
theorem zB_lt {n : Nat} (h : n ≤ 600) : zB n + 1000000 < 100000000 := by
  have h2 := zB_le h
  have h3 : zB 600 = 48000001 := rfl
  omega
section JX6
variable {p : Program} {l : Launch} {e : Env} {R : Room} {s : State} {m : MethodId} {args : Array Value} {below : List Frame} {meth : Method} {c : Code} {cc : ByteArray} {nL : Nat} {own : String} {D : va_G} {Ea Eb : List (Nat × Nat)} {kda kdb : Nat → gKd} {tc : Nat → ClassId} {ada adb : Nat → Nat → Nat} {rha rhb : gRh} {sa : Nat → Nat} {A : Nat → Prop} {H0 : Heap} {cells slots : Nat} {Q : State → Prop} {μa μb : gM} {pc : Nat} {lv : List (Nat × Value)} {st : List Value} {cJ cD : ClassId} {x1 x2 : Nat} {v8 : Int64} {d8 : UInt64}
theorem JX_catchB {y : MethodName} {bytes : ByteArray} {maxL n idx f i ci n' i0 h1 ce sl : Nat} {refs : List Nat} {T : u_T} {ret : Option FieldType} {rm : Room} {As : List Value} {pre suf : List ExceptionTableEntry} {x : ExceptionTableEntry} {μ1 : gM} (hI : gI (mxE Ea Eb) (mxA ada adb)) (hL : mxL Ea rha)
    (hM : gMetX l y bytes maxL ret rm D Eb kdb tc adb rhb sa (.ref (adb f i) :: As) μb (gX i0) μ1) (hw : wCv y bytes maxL ret n) (hlk : Cond.methodLink own idx y ∈ BIG) (hE : (f, i) ∈ Eb) (hk : mxK kda kdb (f + 30) = .inl (ci, n', refs)) (hc : vwCl[ci]? = some (y.cls, T, n')) (hn : As.length = n) (hrm : rm.cells = 1 ∧ rm.slots = 6 ∧ rm.frames + 1 ≤ R.frames ∧ 8 + (maxL + 11) + rm.locals ≤ R.locals) (hf : cells + 1 ≤ R.cells ∧ slots + 6 ≤ R.slots) (hst : (st.map fun v => v.category).sum ≤ 8) (hdg : decode cc pc = .ok (.invokevirtual idx, 3))
    (hi0 : i0 < 6) (hsplit : c.exceptionTable.toList = pre ++ x :: suf) (hpass : ∀ z ∈ pre, z.catchType ≠ 0 ∧ ∃ j, j < 6 ∧ i0 ≠ j ∧ Cond.classLink own z.catchType (gX j) ∈ BIG) (hcov : covers x pc = true) (hx0 : x.catchType ≠ 0) (hxl : Cond.classLink own x.catchType (gX i0) ∈ BIG) (hxh : x.handlerPc = h1) (h2 : cells + 1 = ce) (h3 : slots + 6 = sl)
    (k : ∀ q : Nat, JX cJ cD x1 x2 v8 d8 p l e R s m args below meth c cc nL own D (mxE Ea Eb) (mxK kda kdb) tc (mxA ada adb) (mxR rha rhb) sa A H0 ce sl Q (mxM μa μ1) h1 lv [.ref q]) : JX cJ cD x1 x2 v8 d8 p l e R s m args below meth c cc nL own D (mxE Ea Eb) (mxK kda kdb) tc (mxA ada adb) (mxR rha rhb) sa A H0 cells slots Q (mxM μa μb) pc lv (As.reverse ++ .ref (mxA ada adb (f + 30) i) :: st) :=
  JX_catch hM hw rfl hlk mxA_b.symm (mxE_b hE) hk hc hn hrm hf hst hdg (fun f i h => ⟨f + 30, i, mxE_b h, mxA_b.symm, mx_gb.symm⟩) (fun f i h => by
    rcases mxE_in.mp h with h3 | ⟨f0, h3, rfl⟩
    · refine Or.inr ⟨fun a b hab z => ?_, by rw [mx_ga hL h3, mx_ga hL h3]⟩
      rw [mxA_a (hL.1 f i h3)] at z
      exact mx_sep hL.1 hI f i a b h3 hab z.symm
    · exact Or.inl ⟨f0, i, h3, mxA_b, mx_gb⟩) hi0 hsplit hpass hcov hx0 hxl hxh h2 h3 k
end JX6
section JX7
variable {l : Launch} {D : va_G} {tc : Nat → ClassId} {sa : Nat → Nat} {E : List (Nat × Nat)} {kd : Nat → gKd} {ad : Nat → Nat → Nat} {rh : gRh} {μ : gM} {cJ cD : ClassId} {x1 x2 a0 n len : Nat} {v8 : Int64} {d8 : UInt64} {S : sqSt} {sv : Option sqSt} {β : Nat → Int32} {T : List Nat} {a1 a2 a3 : Int32}
theorem lW_start (hlz : l.stackTraces = false) (hS : cSt a0 S sv β len T E kd ad rh μ) (hZ : zJ n S) (hn : n ≤ 600) : wMet l yL_start cL_start 5 [(0, 10, 13, 13)] ({ frames := 14, cells := 1, slots := 6, locals := 1000 } : Room) D E kd tc ad rh sa cJ cD x1 x2 v8 d8 [.ref a0, .int a1, .int a2, .ref x1] μ (lPo1 a0 (zaStart S a1.toInt a2).1 (zaStart S a1.toInt a2).2.1 (zaStart S a1.toInt a2).2.2 sv β len T) := by
  obtain ⟨nc, cp, N0, ada, adb, ml, arr, μc, rfl, rfl, rfl, rfl, rfl, rfl, hw, hR, hBu, hsv⟩ := hS
  have hnc := hsv_nc hsv
  have hI := hw.1
  have hIb := gI_mxb hI
  have hY : RY (zB n) μc 0 S := ⟨hR, hZ.1, by have := zB_lt hn; omega⟩
  have hBn := zB_lt hn
  obtain ⟨q, hq, hp⟩ := mX6_start_ok (nc := nc) (a1 := a1) (a2 := a2) hR
  refine wMet_of hI ⟨by decide +kernel, Nat.le_of_ble_eq_true rfl⟩ (fun p e s m args below meth c sz hr hlk htab => ?_)
  show JX cJ cD x1 x2 v8 d8 p l e ({ frames := 14, cells := 1, slots := 6, locals := 1000 } : Room) s m args below meth c cL_start 5 RL D (mxE sE (gE_C nc)) (mxK (sKd cp N0) gkd_C) tc (mxA ada adb) (mxR sRh (grh_C nc)) sa (wA (mxE sE (gE_C nc)) (mxA ada adb) x1 x2 sz) s.heap 0 0 (MQ below (wQ D tc cJ cD x1 x2 (mxE sE (gE_C nc)) (mxA ada adb) sz (lPo1 (adb 0 0) (zaStart S a1.toInt a2).1 (zaStart S a1.toInt a2).2.1 (zaStart S a1.toInt a2).2.2 sv β len T)) args s 1 6 (wA (mxE sE (gE_C nc)) (mxA ada adb) x1 x2 sz)) (mxM (sM T.length ml arr) μc) 0 [(0, .ref (adb 0 0)), (1, .int a1), (2, .int a2), (3, .ref x1)] []
  refine JX_aload_n (i := 3) (q := 3) (pc1 := 1) dL_start_0 rfl rfl rfl ?_
  refine JX_iconst (v := 0) (pc1 := 2) dL_start_1 (by decide) rfl ?_
  refine JX_aload_n (i := 0) (q := 0) (pc1 := 3) dL_start_2 rfl rfl rfl ?_
  refine JX_iload_n (i := 1) (q := 1) (pc1 := 4) dL_start_3 rfl rfl rfl ?_
  refine JX_iload_n (i := 2) (q := 2) (pc1 := 5) dL_start_4 rfl rfl rfl ?_
  match q, hq, hp with
  | .inr (r, μ9), hq, hp =>
    obtain ⟨h0, hv, hF, hR9⟩ := hp
    refine JX_mixB (o := some (.int r)) (μ1 := μ9) (pc1 := 8) (st := [.int 0, .ref x1]) (st1 := [.int r, .int 0, .ref x1]) (ce := 0) (sl := 0) hI mxL_sE (J_hV (st := [.int 0, .ref x1]) (As := [.int a1, .int a2]) (gMet.G hIb ⟨rfl, rfl⟩ (kX6_start l D tc sa adb nc hnc hIb a1 a2 μc r μ9 hq)) wcX6_start rfl wlL_7 mxA_b.symm (mxE_b (eC0 (nc := nc))) rfl rfl rfl ⟨Nat.le_of_ble_eq_true rfl, Nat.le_of_ble_eq_true rfl⟩ ⟨Nat.le_of_ble_eq_true rfl, Nat.le_of_ble_eq_true rfl⟩ (Nat.le_of_ble_eq_true rfl) dL_start_5) rfl rfl rfl rfl ?_
    refine JX_i2l (v := r.toInt64) (pc1 := 9) dL_start_8 rfl rfl ?_
    refine JX_last (pc1 := 10) dL_start_9 rfl ?_
    refine JX_goto (tgt := 17) dL_start_10 (by decide) ?_
    refine JX_iconst (v := 0) (pc1 := 18) dL_start_17 (by decide) rfl ?_
    exact JX_iretW hr hlk ⟨by rw [h0]; rfl, cSt_fr hw hBu hsv hF hR9, fun _ => ⟨r, rfl, hv⟩⟩ hI (Nat.le_of_ble_eq_true rfl) (Nat.le_of_ble_eq_true rfl) dL_start_18
  | .inl (ex, μ9), hq, hp =>
    obtain ⟨hc0, hex, hF, hR9⟩ := hp
    have hz : (zaStart S a1.toInt a2).1 = 1 := by have := zc_Start (S := S) (g := a1.toInt) (v := a2); omega
    have e := hz
    rw [e] at hex
    have hex2 : ex = gX 0 := hex
    subst hex2
    refine JX_catchB (i0 := 0) (h1 := 13) (ce := 1) (sl := 6) (pre := []) (x := ⟨0, 10, 13, 13⟩) (suf := []) (st := [.int 0, .ref x1]) (As := [.int a1, .int a2]) hI mxL_sE (tX6_start l D tc sa adb nc hnc hIb a1 a2 μc hlz (gX 0) μ9 hq) wcX6_start wlL_7 (eC0 (nc := nc)) rfl rfl rfl ⟨rfl, rfl, Nat.le_of_ble_eq_true rfl, Nat.le_of_ble_eq_true rfl⟩ ⟨Nat.le_of_ble_eq_true rfl, Nat.le_of_ble_eq_true rfl⟩ (Nat.le_of_ble_eq_true rfl) dL_start_5 (by decide) (htab.trans rfl) (fun z hz => absurd hz List.not_mem_nil) rfl (by decide) clL_13 rfl rfl rfl (fun q9 => ?_)
    refine JX_astore (i := 4) (lv1 := [(4, .ref q9), (0, .ref (adb 0 0)), (1, .int a1), (2, .int a2), (3, .ref x1)]) (pc1 := 15) dL_start_13 (by decide) rfl rfl ?_
    refine JX_iconst (v := 1) (pc1 := 16) dL_start_15 (by decide) rfl ?_
    exact JX_iretW hr hlk ⟨by rw [e]; rfl, cSt_fr hw hBu hsv hF hR9, fun z => absurd (e.symm.trans z) (by decide)⟩ hI (Nat.le_of_ble_eq_true rfl) (Nat.le_of_ble_eq_true rfl) dL_start_16
theorem lW_tick (hlz : l.stackTraces = false) (hS : cSt a0 S sv β len T E kd ad rh μ) (hZ : zJ n S) (hn : n ≤ 600) : wMet l yL_tick cL_tick 4 [(0, 9, 12, 13)] ({ frames := 14, cells := 1, slots := 6, locals := 1000 } : Room) D E kd tc ad rh sa cJ cD x1 x2 v8 d8 [.ref a0, .int a1, .ref x1] μ (lPo1 a0 (zaTick S a1.toInt).1 (zaTick S a1.toInt).2.1 (zaTick S a1.toInt).2.2 sv β len T) := by
  obtain ⟨nc, cp, N0, ada, adb, ml, arr, μc, rfl, rfl, rfl, rfl, rfl, rfl, hw, hR, hBu, hsv⟩ := hS
  have hnc := hsv_nc hsv
  have hI := hw.1
  have hIb := gI_mxb hI
  have hY : RY (zB n) μc 0 S := ⟨hR, hZ.1, by have := zB_lt hn; omega⟩
  have hBn := zB_lt hn
  obtain ⟨q, hq, hp⟩ := mX6_tick_ok (nc := nc) (a1 := a1) hY (by omega) hnc
  refine wMet_of hI ⟨by decide +kernel, Nat.le_of_ble_eq_true rfl⟩ (fun p e s m args below meth c sz hr hlk htab => ?_)
  show JX cJ cD x1 x2 v8 d8 p l e ({ frames := 14, cells := 1, slots := 6, locals := 1000 } : Room) s m args below meth c cL_tick 4 RL D (mxE sE (gE_C nc)) (mxK (sKd cp N0) gkd_C) tc (mxA ada adb) (mxR sRh (grh_C nc)) sa (wA (mxE sE (gE_C nc)) (mxA ada adb) x1 x2 sz) s.heap 0 0 (MQ below (wQ D tc cJ cD x1 x2 (mxE sE (gE_C nc)) (mxA ada adb) sz (lPo1 (adb 0 0) (zaTick S a1.toInt).1 (zaTick S a1.toInt).2.1 (zaTick S a1.toInt).2.2 sv β len T)) args s 1 6 (wA (mxE sE (gE_C nc)) (mxA ada adb) x1 x2 sz)) (mxM (sM T.length ml arr) μc) 0 [(0, .ref (adb 0 0)), (1, .int a1), (2, .ref x1)] []
  refine JX_aload_n (i := 2) (q := 2) (pc1 := 1) dL_tick_0 rfl rfl rfl ?_
  refine JX_iconst (v := 0) (pc1 := 2) dL_tick_1 (by decide) rfl ?_
  refine JX_aload_n (i := 0) (q := 0) (pc1 := 3) dL_tick_2 rfl rfl rfl ?_
  refine JX_iload_n (i := 1) (q := 1) (pc1 := 4) dL_tick_3 rfl rfl rfl ?_
  match q, hq, hp with
  | .inr (r, μ9), hq, hp =>
    obtain ⟨h0, hv, hF, hR9⟩ := hp
    refine JX_mixB (o := some (.int r)) (μ1 := μ9) (pc1 := 7) (st := [.int 0, .ref x1]) (st1 := [.int r, .int 0, .ref x1]) (ce := 0) (sl := 0) hI mxL_sE (J_hV (st := [.int 0, .ref x1]) (As := [.int a1]) (gMet.G hIb ⟨rfl, rfl⟩ (kX6_tick l D tc sa adb nc hnc hIb a1 μc r μ9 hq)) wcX6_tick rfl wlL_15 mxA_b.symm (mxE_b (eC0 (nc := nc))) rfl rfl rfl ⟨Nat.le_of_ble_eq_true rfl, Nat.le_of_ble_eq_true rfl⟩ ⟨Nat.le_of_ble_eq_true rfl, Nat.le_of_ble_eq_true rfl⟩ (Nat.le_of_ble_eq_true rfl) dL_tick_4) rfl rfl rfl rfl ?_
    refine JX_i2l (v := r.toInt64) (pc1 := 8) dL_tick_7 rfl rfl ?_
    refine JX_last (pc1 := 9) dL_tick_8 rfl ?_
    refine JX_goto (tgt := 15) dL_tick_9 (by decide) ?_
    refine JX_iconst (v := 0) (pc1 := 16) dL_tick_15 (by decide) rfl ?_
    exact JX_iretW hr hlk ⟨by rw [h0]; rfl, cSt_fr hw hBu hsv hF hR9, fun _ => ⟨r, rfl, hv⟩⟩ hI (Nat.le_of_ble_eq_true rfl) (Nat.le_of_ble_eq_true rfl) dL_tick_16
  | .inl (ex, μ9), hq, hp =>
    obtain ⟨hc0, hex, hF, hR9⟩ := hp
    have hz : (zaTick S a1.toInt).1 = 1 := by have := zc_Tick (S := S) (t := a1.toInt); omega
    have e := hz
    rw [e] at hex
    have hex2 : ex = gX 0 := hex
    subst hex2
    refine JX_catchB (i0 := 0) (h1 := 12) (ce := 1) (sl := 6) (pre := []) (x := ⟨0, 9, 12, 13⟩) (suf := []) (st := [.int 0, .ref x1]) (As := [.int a1]) hI mxL_sE (tX6_tick l D tc sa adb nc hnc hIb a1 μc hlz (gX 0) μ9 hq) wcX6_tick wlL_15 (eC0 (nc := nc)) rfl rfl rfl ⟨rfl, rfl, Nat.le_of_ble_eq_true rfl, Nat.le_of_ble_eq_true rfl⟩ ⟨Nat.le_of_ble_eq_true rfl, Nat.le_of_ble_eq_true rfl⟩ (Nat.le_of_ble_eq_true rfl) dL_tick_4 (by decide) (htab.trans rfl) (fun z hz => absurd hz List.not_mem_nil) rfl (by decide) clL_13 rfl rfl rfl (fun q9 => ?_)
    refine JX_astore_n (i := 3) (lv1 := [(3, .ref q9), (0, .ref (adb 0 0)), (1, .int a1), (2, .ref x1)]) (pc1 := 13) dL_tick_12 rfl (by decide) rfl rfl ?_
    refine JX_iconst (v := 1) (pc1 := 14) dL_tick_13 (by decide) rfl ?_
    exact JX_iretW hr hlk ⟨by rw [e]; rfl, cSt_fr hw hBu hsv hF hR9, fun z => absurd (e.symm.trans z) (by decide)⟩ hI (Nat.le_of_ble_eq_true rfl) (Nat.le_of_ble_eq_true rfl) dL_tick_14
theorem lW_setDelay (hlz : l.stackTraces = false) (hS : cSt a0 S sv β len T E kd ad rh μ) (hZ : zJ n S) (hn : n ≤ 600) : wMet l yL_setDelay cL_setDelay 4 [(0, 9, 12, 13)] ({ frames := 14, cells := 1, slots := 6, locals := 1000 } : Room) D E kd tc ad rh sa cJ cD x1 x2 v8 d8 [.ref a0, .int a1, .ref x1] μ (lPo1 a0 (zaDelay S a1.toInt).1 (zaDelay S a1.toInt).2.1 (zaDelay S a1.toInt).2.2 sv β len T) := by
  obtain ⟨nc, cp, N0, ada, adb, ml, arr, μc, rfl, rfl, rfl, rfl, rfl, rfl, hw, hR, hBu, hsv⟩ := hS
  have hnc := hsv_nc hsv
  have hI := hw.1
  have hIb := gI_mxb hI
  have hY : RY (zB n) μc 0 S := ⟨hR, hZ.1, by have := zB_lt hn; omega⟩
  have hBn := zB_lt hn
  obtain ⟨q, hq, hp⟩ := mX6_setDelay_ok (nc := nc) (a1 := a1) hR
  refine wMet_of hI ⟨by decide +kernel, Nat.le_of_ble_eq_true rfl⟩ (fun p e s m args below meth c sz hr hlk htab => ?_)
  show JX cJ cD x1 x2 v8 d8 p l e ({ frames := 14, cells := 1, slots := 6, locals := 1000 } : Room) s m args below meth c cL_setDelay 4 RL D (mxE sE (gE_C nc)) (mxK (sKd cp N0) gkd_C) tc (mxA ada adb) (mxR sRh (grh_C nc)) sa (wA (mxE sE (gE_C nc)) (mxA ada adb) x1 x2 sz) s.heap 0 0 (MQ below (wQ D tc cJ cD x1 x2 (mxE sE (gE_C nc)) (mxA ada adb) sz (lPo1 (adb 0 0) (zaDelay S a1.toInt).1 (zaDelay S a1.toInt).2.1 (zaDelay S a1.toInt).2.2 sv β len T)) args s 1 6 (wA (mxE sE (gE_C nc)) (mxA ada adb) x1 x2 sz)) (mxM (sM T.length ml arr) μc) 0 [(0, .ref (adb 0 0)), (1, .int a1), (2, .ref x1)] []
  refine JX_aload_n (i := 2) (q := 2) (pc1 := 1) dL_setDelay_0 rfl rfl rfl ?_
  refine JX_iconst (v := 0) (pc1 := 2) dL_setDelay_1 (by decide) rfl ?_
  refine JX_aload_n (i := 0) (q := 0) (pc1 := 3) dL_setDelay_2 rfl rfl rfl ?_
  refine JX_iload_n (i := 1) (q := 1) (pc1 := 4) dL_setDelay_3 rfl rfl rfl ?_
  match q, hq, hp with
  | .inr (r, μ9), hq, hp =>
    obtain ⟨h0, hv, hF, hR9⟩ := hp
    refine JX_mixB (o := some (.int r)) (μ1 := μ9) (pc1 := 7) (st := [.int 0, .ref x1]) (st1 := [.int r, .int 0, .ref x1]) (ce := 0) (sl := 0) hI mxL_sE (J_hV (st := [.int 0, .ref x1]) (As := [.int a1]) (gMet.G hIb ⟨rfl, rfl⟩ (kX6_setDelay l D tc sa adb nc hnc hIb a1 μc r μ9 hq)) wcX6_setDelay rfl wlL_19 mxA_b.symm (mxE_b (eC0 (nc := nc))) rfl rfl rfl ⟨Nat.le_of_ble_eq_true rfl, Nat.le_of_ble_eq_true rfl⟩ ⟨Nat.le_of_ble_eq_true rfl, Nat.le_of_ble_eq_true rfl⟩ (Nat.le_of_ble_eq_true rfl) dL_setDelay_4) rfl rfl rfl rfl ?_
    refine JX_i2l (v := r.toInt64) (pc1 := 8) dL_setDelay_7 rfl rfl ?_
    refine JX_last (pc1 := 9) dL_setDelay_8 rfl ?_
    refine JX_goto (tgt := 15) dL_setDelay_9 (by decide) ?_
    refine JX_iconst (v := 0) (pc1 := 16) dL_setDelay_15 (by decide) rfl ?_
    exact JX_iretW hr hlk ⟨by rw [h0]; rfl, cSt_fr hw hBu hsv hF hR9, fun _ => ⟨r, rfl, hv⟩⟩ hI (Nat.le_of_ble_eq_true rfl) (Nat.le_of_ble_eq_true rfl) dL_setDelay_16
  | .inl (ex, μ9), hq, hp =>
    obtain ⟨hc0, hex, hF, hR9⟩ := hp
    have hz : (zaDelay S a1.toInt).1 = 1 := by have := zc_Delay (S := S) (d := a1.toInt); omega
    have e := hz
    rw [e] at hex
    have hex2 : ex = gX 0 := hex
    subst hex2
    refine JX_catchB (i0 := 0) (h1 := 12) (ce := 1) (sl := 6) (pre := []) (x := ⟨0, 9, 12, 13⟩) (suf := []) (st := [.int 0, .ref x1]) (As := [.int a1]) hI mxL_sE (tX6_setDelay l D tc sa adb nc hnc hIb a1 μc hlz (gX 0) μ9 hq) wcX6_setDelay wlL_19 (eC0 (nc := nc)) rfl rfl rfl ⟨rfl, rfl, Nat.le_of_ble_eq_true rfl, Nat.le_of_ble_eq_true rfl⟩ ⟨Nat.le_of_ble_eq_true rfl, Nat.le_of_ble_eq_true rfl⟩ (Nat.le_of_ble_eq_true rfl) dL_setDelay_4 (by decide) (htab.trans rfl) (fun z hz => absurd hz List.not_mem_nil) rfl (by decide) clL_13 rfl rfl rfl (fun q9 => ?_)
    refine JX_astore_n (i := 3) (lv1 := [(3, .ref q9), (0, .ref (adb 0 0)), (1, .int a1), (2, .ref x1)]) (pc1 := 13) dL_setDelay_12 rfl (by decide) rfl rfl ?_
    refine JX_iconst (v := 1) (pc1 := 14) dL_setDelay_13 (by decide) rfl ?_
    exact JX_iretW hr hlk ⟨by rw [e]; rfl, cSt_fr hw hBu hsv hF hR9, fun z => absurd (e.symm.trans z) (by decide)⟩ hI (Nat.le_of_ble_eq_true rfl) (Nat.le_of_ble_eq_true rfl) dL_setDelay_14
theorem lW_crash (hlz : l.stackTraces = false) (hS : cSt a0 S sv β len T E kd ad rh μ) (hZ : zJ n S) (hn : n ≤ 600) : wMet l yL_crash cL_crash 4 [(0, 9, 12, 26), (0, 9, 15, 31)] ({ frames := 14, cells := 1, slots := 6, locals := 1000 } : Room) D E kd tc ad rh sa cJ cD x1 x2 v8 d8 [.ref a0, .int a1, .ref x1] μ (lPo1 a0 (zaCrash S a1.toInt).1 (zaCrash S a1.toInt).2.1 (zaCrash S a1.toInt).2.2 sv β len T) := by
  obtain ⟨nc, cp, N0, ada, adb, ml, arr, μc, rfl, rfl, rfl, rfl, rfl, rfl, hw, hR, hBu, hsv⟩ := hS
  have hnc := hsv_nc hsv
  have hI := hw.1
  have hIb := gI_mxb hI
  have hY : RY (zB n) μc 0 S := ⟨hR, hZ.1, by have := zB_lt hn; omega⟩
  have hBn := zB_lt hn
  obtain ⟨q, hq, hp⟩ := mX6_crash_ok (nc := nc) (a1 := a1) hR hnc.1
  refine wMet_of hI ⟨by decide +kernel, Nat.le_of_ble_eq_true rfl⟩ (fun p e s m args below meth c sz hr hlk htab => ?_)
  show JX cJ cD x1 x2 v8 d8 p l e ({ frames := 14, cells := 1, slots := 6, locals := 1000 } : Room) s m args below meth c cL_crash 4 RL D (mxE sE (gE_C nc)) (mxK (sKd cp N0) gkd_C) tc (mxA ada adb) (mxR sRh (grh_C nc)) sa (wA (mxE sE (gE_C nc)) (mxA ada adb) x1 x2 sz) s.heap 0 0 (MQ below (wQ D tc cJ cD x1 x2 (mxE sE (gE_C nc)) (mxA ada adb) sz (lPo1 (adb 0 0) (zaCrash S a1.toInt).1 (zaCrash S a1.toInt).2.1 (zaCrash S a1.toInt).2.2 sv β len T)) args s 1 6 (wA (mxE sE (gE_C nc)) (mxA ada adb) x1 x2 sz)) (mxM (sM T.length ml arr) μc) 0 [(0, .ref (adb 0 0)), (1, .int a1), (2, .ref x1)] []
  refine JX_aload_n (i := 2) (q := 2) (pc1 := 1) dL_crash_0 rfl rfl rfl ?_
  refine JX_iconst (v := 0) (pc1 := 2) dL_crash_1 (by decide) rfl ?_
  refine JX_aload_n (i := 0) (q := 0) (pc1 := 3) dL_crash_2 rfl rfl rfl ?_
  refine JX_iload_n (i := 1) (q := 1) (pc1 := 4) dL_crash_3 rfl rfl rfl ?_
  match q, hq, hp with
  | .inr (r, μ9), hq, hp =>
    obtain ⟨h0, hv, hF, hR9⟩ := hp
    refine JX_mixB (o := some (.int r)) (μ1 := μ9) (pc1 := 7) (st := [.int 0, .ref x1]) (st1 := [.int r, .int 0, .ref x1]) (ce := 0) (sl := 0) hI mxL_sE (J_hV (st := [.int 0, .ref x1]) (As := [.int a1]) (gMet.G hIb ⟨rfl, rfl⟩ (kX6_crash l D tc sa adb nc hnc hIb a1 μc r μ9 hq)) wcX6_crash rfl wlL_28 mxA_b.symm (mxE_b (eC0 (nc := nc))) rfl rfl rfl ⟨Nat.le_of_ble_eq_true rfl, Nat.le_of_ble_eq_true rfl⟩ ⟨Nat.le_of_ble_eq_true rfl, Nat.le_of_ble_eq_true rfl⟩ (Nat.le_of_ble_eq_true rfl) dL_crash_4) rfl rfl rfl rfl ?_
    refine JX_i2l (v := r.toInt64) (pc1 := 8) dL_crash_7 rfl rfl ?_
    refine JX_last (pc1 := 9) dL_crash_8 rfl ?_
    refine JX_goto (tgt := 18) dL_crash_9 (by decide) ?_
    refine JX_iconst (v := 0) (pc1 := 19) dL_crash_18 (by decide) rfl ?_
    exact JX_iretW hr hlk ⟨by rw [h0]; rfl, cSt_fr hw hBu hsv hF hR9, fun _ => ⟨r, rfl, hv⟩⟩ hI (Nat.le_of_ble_eq_true rfl) (Nat.le_of_ble_eq_true rfl) dL_crash_19
  | .inl (ex, μ9), hq, hp =>
    obtain ⟨hc0, hex, hF, hR9⟩ := hp
    have hz : (zaCrash S a1.toInt).1 = 1 ∨ (zaCrash S a1.toInt).1 = 2 := by have := zc_Crash (S := S) (a := a1.toInt); omega
    rcases hz with e | e
    · rw [e] at hex
      have hex2 : ex = gX 2 := hex
      subst hex2
      refine JX_catchB (i0 := 2) (h1 := 12) (ce := 1) (sl := 6) (pre := []) (x := ⟨0, 9, 12, 26⟩) (suf := [⟨0, 9, 15, 31⟩]) (st := [.int 0, .ref x1]) (As := [.int a1]) hI mxL_sE (tX6_crash l D tc sa adb nc hnc hIb a1 μc hlz (gX 2) μ9 hq) wcX6_crash wlL_28 (eC0 (nc := nc)) rfl rfl rfl ⟨rfl, rfl, Nat.le_of_ble_eq_true rfl, Nat.le_of_ble_eq_true rfl⟩ ⟨Nat.le_of_ble_eq_true rfl, Nat.le_of_ble_eq_true rfl⟩ (Nat.le_of_ble_eq_true rfl) dL_crash_4 (by decide) (htab.trans rfl) (fun z hz => absurd hz List.not_mem_nil) rfl (by decide) clL_26 rfl rfl rfl (fun q9 => ?_)
      refine JX_astore_n (i := 3) (lv1 := [(3, .ref q9), (0, .ref (adb 0 0)), (1, .int a1), (2, .ref x1)]) (pc1 := 13) dL_crash_12 rfl (by decide) rfl rfl ?_
      refine JX_iconst (v := 1) (pc1 := 14) dL_crash_13 (by decide) rfl ?_
      exact JX_iretW hr hlk ⟨by rw [e]; rfl, cSt_fr hw hBu hsv hF hR9, fun z => absurd (e.symm.trans z) (by decide)⟩ hI (Nat.le_of_ble_eq_true rfl) (Nat.le_of_ble_eq_true rfl) dL_crash_14
    · rw [e] at hex
      have hex2 : ex = gX 1 := hex
      subst hex2
      refine JX_catchB (i0 := 1) (h1 := 15) (ce := 1) (sl := 6) (pre := [⟨0, 9, 12, 26⟩]) (x := ⟨0, 9, 15, 31⟩) (suf := []) (st := [.int 0, .ref x1]) (As := [.int a1]) hI mxL_sE (tX6_crash l D tc sa adb nc hnc hIb a1 μc hlz (gX 1) μ9 hq) wcX6_crash wlL_28 (eC0 (nc := nc)) rfl rfl rfl ⟨rfl, rfl, Nat.le_of_ble_eq_true rfl, Nat.le_of_ble_eq_true rfl⟩ ⟨Nat.le_of_ble_eq_true rfl, Nat.le_of_ble_eq_true rfl⟩ (Nat.le_of_ble_eq_true rfl) dL_crash_4 (by decide) (htab.trans rfl) (List.forall_mem_cons.mpr ⟨⟨by decide, 2, by decide, by decide, clL_26⟩, (fun z hz => absurd hz List.not_mem_nil)⟩) rfl (by decide) clL_31 rfl rfl rfl (fun q9 => ?_)
      refine JX_astore_n (i := 3) (lv1 := [(3, .ref q9), (0, .ref (adb 0 0)), (1, .int a1), (2, .ref x1)]) (pc1 := 16) dL_crash_15 rfl (by decide) rfl rfl ?_
      refine JX_iconst (v := 2) (pc1 := 17) dL_crash_16 (by decide) rfl ?_
      exact JX_iretW hr hlk ⟨by rw [e]; rfl, cSt_fr hw hBu hsv hF hR9, fun z => absurd (e.symm.trans z) (by decide)⟩ hI (Nat.le_of_ble_eq_true rfl) (Nat.le_of_ble_eq_true rfl) dL_crash_17
theorem lW_restart (hlz : l.stackTraces = false) (hS : cSt a0 S sv β len T E kd ad rh μ) (hZ : zJ n S) (hn : n ≤ 600) : wMet l yL_restart cL_restart 4 [(0, 9, 12, 26), (0, 9, 15, 31)] ({ frames := 14, cells := 1, slots := 6, locals := 1000 } : Room) D E kd tc ad rh sa cJ cD x1 x2 v8 d8 [.ref a0, .int a1, .ref x1] μ (lPo1 a0 (zaBack S a1.toInt).1 (zaBack S a1.toInt).2.1 (zaBack S a1.toInt).2.2 sv β len T) := by
  obtain ⟨nc, cp, N0, ada, adb, ml, arr, μc, rfl, rfl, rfl, rfl, rfl, rfl, hw, hR, hBu, hsv⟩ := hS
  have hnc := hsv_nc hsv
  have hI := hw.1
  have hIb := gI_mxb hI
  have hY : RY (zB n) μc 0 S := ⟨hR, hZ.1, by have := zB_lt hn; omega⟩
  have hBn := zB_lt hn
  obtain ⟨q, hq, hp⟩ := mX6_restart_ok (nc := nc) (a1 := a1) hY hnc.1
  refine wMet_of hI ⟨by decide +kernel, Nat.le_of_ble_eq_true rfl⟩ (fun p e s m args below meth c sz hr hlk htab => ?_)
  show JX cJ cD x1 x2 v8 d8 p l e ({ frames := 14, cells := 1, slots := 6, locals := 1000 } : Room) s m args below meth c cL_restart 4 RL D (mxE sE (gE_C nc)) (mxK (sKd cp N0) gkd_C) tc (mxA ada adb) (mxR sRh (grh_C nc)) sa (wA (mxE sE (gE_C nc)) (mxA ada adb) x1 x2 sz) s.heap 0 0 (MQ below (wQ D tc cJ cD x1 x2 (mxE sE (gE_C nc)) (mxA ada adb) sz (lPo1 (adb 0 0) (zaBack S a1.toInt).1 (zaBack S a1.toInt).2.1 (zaBack S a1.toInt).2.2 sv β len T)) args s 1 6 (wA (mxE sE (gE_C nc)) (mxA ada adb) x1 x2 sz)) (mxM (sM T.length ml arr) μc) 0 [(0, .ref (adb 0 0)), (1, .int a1), (2, .ref x1)] []
  refine JX_aload_n (i := 2) (q := 2) (pc1 := 1) dL_restart_0 rfl rfl rfl ?_
  refine JX_iconst (v := 0) (pc1 := 2) dL_restart_1 (by decide) rfl ?_
  refine JX_aload_n (i := 0) (q := 0) (pc1 := 3) dL_restart_2 rfl rfl rfl ?_
  refine JX_iload_n (i := 1) (q := 1) (pc1 := 4) dL_restart_3 rfl rfl rfl ?_
  match q, hq, hp with
  | .inr (r, μ9), hq, hp =>
    obtain ⟨h0, hv, hF, hR9⟩ := hp
    refine JX_mixB (o := some (.int r)) (μ1 := μ9) (pc1 := 7) (st := [.int 0, .ref x1]) (st1 := [.int r, .int 0, .ref x1]) (ce := 0) (sl := 0) hI mxL_sE (J_hV (st := [.int 0, .ref x1]) (As := [.int a1]) (gMet.G hIb ⟨rfl, rfl⟩ (kX6_restart l D tc sa adb nc hnc hIb a1 μc r μ9 hq)) wcX6_restart rfl wlL_33 mxA_b.symm (mxE_b (eC0 (nc := nc))) rfl rfl rfl ⟨Nat.le_of_ble_eq_true rfl, Nat.le_of_ble_eq_true rfl⟩ ⟨Nat.le_of_ble_eq_true rfl, Nat.le_of_ble_eq_true rfl⟩ (Nat.le_of_ble_eq_true rfl) dL_restart_4) rfl rfl rfl rfl ?_
    refine JX_i2l (v := r.toInt64) (pc1 := 8) dL_restart_7 rfl rfl ?_
    refine JX_last (pc1 := 9) dL_restart_8 rfl ?_
    refine JX_goto (tgt := 18) dL_restart_9 (by decide) ?_
    refine JX_iconst (v := 0) (pc1 := 19) dL_restart_18 (by decide) rfl ?_
    exact JX_iretW hr hlk ⟨by rw [h0]; rfl, cSt_fr hw hBu hsv hF hR9, fun _ => ⟨r, rfl, hv⟩⟩ hI (Nat.le_of_ble_eq_true rfl) (Nat.le_of_ble_eq_true rfl) dL_restart_19
  | .inl (ex, μ9), hq, hp =>
    obtain ⟨hc0, hex, hF, hR9⟩ := hp
    have hz : (zaBack S a1.toInt).1 = 1 ∨ (zaBack S a1.toInt).1 = 2 := by have := zc_Back (S := S) (a := a1.toInt); omega
    rcases hz with e | e
    · rw [e] at hex
      have hex2 : ex = gX 2 := hex
      subst hex2
      refine JX_catchB (i0 := 2) (h1 := 12) (ce := 1) (sl := 6) (pre := []) (x := ⟨0, 9, 12, 26⟩) (suf := [⟨0, 9, 15, 31⟩]) (st := [.int 0, .ref x1]) (As := [.int a1]) hI mxL_sE (tX6_restart l D tc sa adb nc hnc hIb a1 μc hlz (gX 2) μ9 hq) wcX6_restart wlL_33 (eC0 (nc := nc)) rfl rfl rfl ⟨rfl, rfl, Nat.le_of_ble_eq_true rfl, Nat.le_of_ble_eq_true rfl⟩ ⟨Nat.le_of_ble_eq_true rfl, Nat.le_of_ble_eq_true rfl⟩ (Nat.le_of_ble_eq_true rfl) dL_restart_4 (by decide) (htab.trans rfl) (fun z hz => absurd hz List.not_mem_nil) rfl (by decide) clL_26 rfl rfl rfl (fun q9 => ?_)
      refine JX_astore_n (i := 3) (lv1 := [(3, .ref q9), (0, .ref (adb 0 0)), (1, .int a1), (2, .ref x1)]) (pc1 := 13) dL_restart_12 rfl (by decide) rfl rfl ?_
      refine JX_iconst (v := 1) (pc1 := 14) dL_restart_13 (by decide) rfl ?_
      exact JX_iretW hr hlk ⟨by rw [e]; rfl, cSt_fr hw hBu hsv hF hR9, fun z => absurd (e.symm.trans z) (by decide)⟩ hI (Nat.le_of_ble_eq_true rfl) (Nat.le_of_ble_eq_true rfl) dL_restart_14
    · rw [e] at hex
      have hex2 : ex = gX 1 := hex
      subst hex2
      refine JX_catchB (i0 := 1) (h1 := 15) (ce := 1) (sl := 6) (pre := [⟨0, 9, 12, 26⟩]) (x := ⟨0, 9, 15, 31⟩) (suf := []) (st := [.int 0, .ref x1]) (As := [.int a1]) hI mxL_sE (tX6_restart l D tc sa adb nc hnc hIb a1 μc hlz (gX 1) μ9 hq) wcX6_restart wlL_33 (eC0 (nc := nc)) rfl rfl rfl ⟨rfl, rfl, Nat.le_of_ble_eq_true rfl, Nat.le_of_ble_eq_true rfl⟩ ⟨Nat.le_of_ble_eq_true rfl, Nat.le_of_ble_eq_true rfl⟩ (Nat.le_of_ble_eq_true rfl) dL_restart_4 (by decide) (htab.trans rfl) (List.forall_mem_cons.mpr ⟨⟨by decide, 2, by decide, by decide, clL_26⟩, (fun z hz => absurd hz List.not_mem_nil)⟩) rfl (by decide) clL_31 rfl rfl rfl (fun q9 => ?_)
      refine JX_astore_n (i := 3) (lv1 := [(3, .ref q9), (0, .ref (adb 0 0)), (1, .int a1), (2, .ref x1)]) (pc1 := 16) dL_restart_15 rfl (by decide) rfl rfl ?_
      refine JX_iconst (v := 2) (pc1 := 17) dL_restart_16 (by decide) rfl ?_
      exact JX_iretW hr hlk ⟨by rw [e]; rfl, cSt_fr hw hBu hsv hF hR9, fun z => absurd (e.symm.trans z) (by decide)⟩ hI (Nat.le_of_ble_eq_true rfl) (Nat.le_of_ble_eq_true rfl) dL_restart_17
theorem lW_submit (hlz : l.stackTraces = false) (hS : cSt a0 S sv β len T E kd ad rh μ) (hZ : zJ n S) (hn : n ≤ 600) : wMet l yL_submit cL_submit 5 [(0, 10, 13, 26), (0, 10, 17, 31), (0, 10, 21, 39)] ({ frames := 14, cells := 1, slots := 6, locals := 1000 } : Room) D E kd tc ad rh sa cJ cD x1 x2 v8 d8 [.ref a0, .int a1, .int a2, .ref x1] μ (lPo1 a0 (zaSub S a1.toInt a2).1 (zaSub S a1.toInt a2).2.1 (zaSub S a1.toInt a2).2.2 sv β len T) := by
  obtain ⟨nc, cp, N0, ada, adb, ml, arr, μc, rfl, rfl, rfl, rfl, rfl, rfl, hw, hR, hBu, hsv⟩ := hS
  have hnc := hsv_nc hsv
  have hI := hw.1
  have hIb := gI_mxb hI
  have hY : RY (zB n) μc 0 S := ⟨hR, hZ.1, by have := zB_lt hn; omega⟩
  have hBn := zB_lt hn
  obtain ⟨q, hq, hp⟩ := mX6_submit_ok (nc := nc) (a1 := a1) (a2 := a2) hY (by omega) hnc.1
  refine wMet_of hI ⟨by decide +kernel, Nat.le_of_ble_eq_true rfl⟩ (fun p e s m args below meth c sz hr hlk htab => ?_)
  show JX cJ cD x1 x2 v8 d8 p l e ({ frames := 14, cells := 1, slots := 6, locals := 1000 } : Room) s m args below meth c cL_submit 5 RL D (mxE sE (gE_C nc)) (mxK (sKd cp N0) gkd_C) tc (mxA ada adb) (mxR sRh (grh_C nc)) sa (wA (mxE sE (gE_C nc)) (mxA ada adb) x1 x2 sz) s.heap 0 0 (MQ below (wQ D tc cJ cD x1 x2 (mxE sE (gE_C nc)) (mxA ada adb) sz (lPo1 (adb 0 0) (zaSub S a1.toInt a2).1 (zaSub S a1.toInt a2).2.1 (zaSub S a1.toInt a2).2.2 sv β len T)) args s 1 6 (wA (mxE sE (gE_C nc)) (mxA ada adb) x1 x2 sz)) (mxM (sM T.length ml arr) μc) 0 [(0, .ref (adb 0 0)), (1, .int a1), (2, .int a2), (3, .ref x1)] []
  refine JX_aload_n (i := 3) (q := 3) (pc1 := 1) dL_submit_0 rfl rfl rfl ?_
  refine JX_iconst (v := 0) (pc1 := 2) dL_submit_1 (by decide) rfl ?_
  refine JX_aload_n (i := 0) (q := 0) (pc1 := 3) dL_submit_2 rfl rfl rfl ?_
  refine JX_iload_n (i := 1) (q := 1) (pc1 := 4) dL_submit_3 rfl rfl rfl ?_
  refine JX_iload_n (i := 2) (q := 2) (pc1 := 5) dL_submit_4 rfl rfl rfl ?_
  match q, hq, hp with
  | .inr (r, μ9), hq, hp =>
    obtain ⟨h0, hv, hF, hR9⟩ := hp
    refine JX_mixB (o := some (.int r)) (μ1 := μ9) (pc1 := 8) (st := [.int 0, .ref x1]) (st1 := [.int r, .int 0, .ref x1]) (ce := 0) (sl := 0) hI mxL_sE (J_hV (st := [.int 0, .ref x1]) (As := [.int a1, .int a2]) (gMet.G hIb ⟨rfl, rfl⟩ (kX6_submit l D tc sa adb nc hnc hIb a1 a2 μc r μ9 hq)) wcX6_submit rfl wlL_36 mxA_b.symm (mxE_b (eC0 (nc := nc))) rfl rfl rfl ⟨Nat.le_of_ble_eq_true rfl, Nat.le_of_ble_eq_true rfl⟩ ⟨Nat.le_of_ble_eq_true rfl, Nat.le_of_ble_eq_true rfl⟩ (Nat.le_of_ble_eq_true rfl) dL_submit_5) rfl rfl rfl rfl ?_
    refine JX_i2l (v := r.toInt64) (pc1 := 9) dL_submit_8 rfl rfl ?_
    refine JX_last (pc1 := 10) dL_submit_9 rfl ?_
    refine JX_goto (tgt := 25) dL_submit_10 (by decide) ?_
    refine JX_iconst (v := 0) (pc1 := 26) dL_submit_25 (by decide) rfl ?_
    exact JX_iretW hr hlk ⟨by rw [h0]; rfl, cSt_fr hw hBu hsv hF hR9, fun _ => ⟨r, rfl, hv⟩⟩ hI (Nat.le_of_ble_eq_true rfl) (Nat.le_of_ble_eq_true rfl) dL_submit_26
  | .inl (ex, μ9), hq, hp =>
    obtain ⟨hc0, hex, hF, hR9⟩ := hp
    have hz : (zaSub S a1.toInt a2).1 = 1 ∨ (zaSub S a1.toInt a2).1 = 2 ∨ (zaSub S a1.toInt a2).1 = 3 := by have := zc_Sub (S := S) (a := a1.toInt) (v := a2); omega
    rcases hz with e | e | e
    · rw [e] at hex
      have hex2 : ex = gX 2 := hex
      subst hex2
      refine JX_catchB (i0 := 2) (h1 := 13) (ce := 1) (sl := 6) (pre := []) (x := ⟨0, 10, 13, 26⟩) (suf := [⟨0, 10, 17, 31⟩, ⟨0, 10, 21, 39⟩]) (st := [.int 0, .ref x1]) (As := [.int a1, .int a2]) hI mxL_sE (tX6_submit l D tc sa adb nc hnc hIb a1 a2 μc hlz (gX 2) μ9 hq) wcX6_submit wlL_36 (eC0 (nc := nc)) rfl rfl rfl ⟨rfl, rfl, Nat.le_of_ble_eq_true rfl, Nat.le_of_ble_eq_true rfl⟩ ⟨Nat.le_of_ble_eq_true rfl, Nat.le_of_ble_eq_true rfl⟩ (Nat.le_of_ble_eq_true rfl) dL_submit_5 (by decide) (htab.trans rfl) (fun z hz => absurd hz List.not_mem_nil) rfl (by decide) clL_26 rfl rfl rfl (fun q9 => ?_)
      refine JX_astore (i := 4) (lv1 := [(4, .ref q9), (0, .ref (adb 0 0)), (1, .int a1), (2, .int a2), (3, .ref x1)]) (pc1 := 15) dL_submit_13 (by decide) rfl rfl ?_
      refine JX_iconst (v := 1) (pc1 := 16) dL_submit_15 (by decide) rfl ?_
      exact JX_iretW hr hlk ⟨by rw [e]; rfl, cSt_fr hw hBu hsv hF hR9, fun z => absurd (e.symm.trans z) (by decide)⟩ hI (Nat.le_of_ble_eq_true rfl) (Nat.le_of_ble_eq_true rfl) dL_submit_16
    · rw [e] at hex
      have hex2 : ex = gX 1 := hex
      subst hex2
      refine JX_catchB (i0 := 1) (h1 := 17) (ce := 1) (sl := 6) (pre := [⟨0, 10, 13, 26⟩]) (x := ⟨0, 10, 17, 31⟩) (suf := [⟨0, 10, 21, 39⟩]) (st := [.int 0, .ref x1]) (As := [.int a1, .int a2]) hI mxL_sE (tX6_submit l D tc sa adb nc hnc hIb a1 a2 μc hlz (gX 1) μ9 hq) wcX6_submit wlL_36 (eC0 (nc := nc)) rfl rfl rfl ⟨rfl, rfl, Nat.le_of_ble_eq_true rfl, Nat.le_of_ble_eq_true rfl⟩ ⟨Nat.le_of_ble_eq_true rfl, Nat.le_of_ble_eq_true rfl⟩ (Nat.le_of_ble_eq_true rfl) dL_submit_5 (by decide) (htab.trans rfl) (List.forall_mem_cons.mpr ⟨⟨by decide, 2, by decide, by decide, clL_26⟩, (fun z hz => absurd hz List.not_mem_nil)⟩) rfl (by decide) clL_31 rfl rfl rfl (fun q9 => ?_)
      refine JX_astore (i := 4) (lv1 := [(4, .ref q9), (0, .ref (adb 0 0)), (1, .int a1), (2, .int a2), (3, .ref x1)]) (pc1 := 19) dL_submit_17 (by decide) rfl rfl ?_
      refine JX_iconst (v := 2) (pc1 := 20) dL_submit_19 (by decide) rfl ?_
      exact JX_iretW hr hlk ⟨by rw [e]; rfl, cSt_fr hw hBu hsv hF hR9, fun z => absurd (e.symm.trans z) (by decide)⟩ hI (Nat.le_of_ble_eq_true rfl) (Nat.le_of_ble_eq_true rfl) dL_submit_20
    · rw [e] at hex
      have hex2 : ex = gX 3 := hex
      subst hex2
      refine JX_catchB (i0 := 3) (h1 := 21) (ce := 1) (sl := 6) (pre := [⟨0, 10, 13, 26⟩, ⟨0, 10, 17, 31⟩]) (x := ⟨0, 10, 21, 39⟩) (suf := []) (st := [.int 0, .ref x1]) (As := [.int a1, .int a2]) hI mxL_sE (tX6_submit l D tc sa adb nc hnc hIb a1 a2 μc hlz (gX 3) μ9 hq) wcX6_submit wlL_36 (eC0 (nc := nc)) rfl rfl rfl ⟨rfl, rfl, Nat.le_of_ble_eq_true rfl, Nat.le_of_ble_eq_true rfl⟩ ⟨Nat.le_of_ble_eq_true rfl, Nat.le_of_ble_eq_true rfl⟩ (Nat.le_of_ble_eq_true rfl) dL_submit_5 (by decide) (htab.trans rfl) (List.forall_mem_cons.mpr ⟨⟨by decide, 2, by decide, by decide, clL_26⟩, (List.forall_mem_cons.mpr ⟨⟨by decide, 1, by decide, by decide, clL_31⟩, (fun z hz => absurd hz List.not_mem_nil)⟩)⟩) rfl (by decide) clL_39 rfl rfl rfl (fun q9 => ?_)
      refine JX_astore (i := 4) (lv1 := [(4, .ref q9), (0, .ref (adb 0 0)), (1, .int a1), (2, .int a2), (3, .ref x1)]) (pc1 := 23) dL_submit_21 (by decide) rfl rfl ?_
      refine JX_iconst (v := 3) (pc1 := 24) dL_submit_23 (by decide) rfl ?_
      exact JX_iretW hr hlk ⟨by rw [e]; rfl, cSt_fr hw hBu hsv hF hR9, fun z => absurd (e.symm.trans z) (by decide)⟩ hI (Nat.le_of_ble_eq_true rfl) (Nat.le_of_ble_eq_true rfl) dL_submit_24
theorem lW_reconfigure (hlz : l.stackTraces = false) (hS : cSt a0 S sv β len T E kd ad rh μ) (hZ : zJ n S) (hn : n ≤ 600) : wMet l yL_reconfigure cL_reconfigure 5 [(0, 10, 13, 26), (0, 10, 17, 13), (0, 10, 21, 31), (0, 10, 25, 39)] ({ frames := 14, cells := 1, slots := 6, locals := 1000 } : Room) D E kd tc ad rh sa cJ cD x1 x2 v8 d8 [.ref a0, .int a1, .int a2, .ref x1] μ (lPo1 a0 (zaConf S a1.toInt a2.toInt).1 (zaConf S a1.toInt a2.toInt).2.1 (zaConf S a1.toInt a2.toInt).2.2 sv β len T) := by
  obtain ⟨nc, cp, N0, ada, adb, ml, arr, μc, rfl, rfl, rfl, rfl, rfl, rfl, hw, hR, hBu, hsv⟩ := hS
  have hnc := hsv_nc hsv
  have hI := hw.1
  have hIb := gI_mxb hI
  have hY : RY (zB n) μc 0 S := ⟨hR, hZ.1, by have := zB_lt hn; omega⟩
  have hBn := zB_lt hn
  obtain ⟨q, hq, hp⟩ := mX6_reconfigure_ok (nc := nc) (a1 := a1) (a2 := a2) hY (by omega) hnc.1
  refine wMet_of hI ⟨by decide +kernel, Nat.le_of_ble_eq_true rfl⟩ (fun p e s m args below meth c sz hr hlk htab => ?_)
  show JX cJ cD x1 x2 v8 d8 p l e ({ frames := 14, cells := 1, slots := 6, locals := 1000 } : Room) s m args below meth c cL_reconfigure 5 RL D (mxE sE (gE_C nc)) (mxK (sKd cp N0) gkd_C) tc (mxA ada adb) (mxR sRh (grh_C nc)) sa (wA (mxE sE (gE_C nc)) (mxA ada adb) x1 x2 sz) s.heap 0 0 (MQ below (wQ D tc cJ cD x1 x2 (mxE sE (gE_C nc)) (mxA ada adb) sz (lPo1 (adb 0 0) (zaConf S a1.toInt a2.toInt).1 (zaConf S a1.toInt a2.toInt).2.1 (zaConf S a1.toInt a2.toInt).2.2 sv β len T)) args s 1 6 (wA (mxE sE (gE_C nc)) (mxA ada adb) x1 x2 sz)) (mxM (sM T.length ml arr) μc) 0 [(0, .ref (adb 0 0)), (1, .int a1), (2, .int a2), (3, .ref x1)] []
  refine JX_aload_n (i := 3) (q := 3) (pc1 := 1) dL_reconfigure_0 rfl rfl rfl ?_
  refine JX_iconst (v := 0) (pc1 := 2) dL_reconfigure_1 (by decide) rfl ?_
  refine JX_aload_n (i := 0) (q := 0) (pc1 := 3) dL_reconfigure_2 rfl rfl rfl ?_
  refine JX_iload_n (i := 1) (q := 1) (pc1 := 4) dL_reconfigure_3 rfl rfl rfl ?_
  refine JX_iload_n (i := 2) (q := 2) (pc1 := 5) dL_reconfigure_4 rfl rfl rfl ?_
  match q, hq, hp with
  | .inr (r, μ9), hq, hp =>
    obtain ⟨h0, hv, hF, hR9⟩ := hp
    refine JX_mixB (o := some (.int r)) (μ1 := μ9) (pc1 := 8) (st := [.int 0, .ref x1]) (st1 := [.int r, .int 0, .ref x1]) (ce := 0) (sl := 0) hI mxL_sE (J_hV (st := [.int 0, .ref x1]) (As := [.int a1, .int a2]) (gMet.G hIb ⟨rfl, rfl⟩ (kX6_reconfigure l D tc sa adb nc hnc hIb a1 a2 μc r μ9 hq)) wcX6_reconfigure rfl wlL_41 mxA_b.symm (mxE_b (eC0 (nc := nc))) rfl rfl rfl ⟨Nat.le_of_ble_eq_true rfl, Nat.le_of_ble_eq_true rfl⟩ ⟨Nat.le_of_ble_eq_true rfl, Nat.le_of_ble_eq_true rfl⟩ (Nat.le_of_ble_eq_true rfl) dL_reconfigure_5) rfl rfl rfl rfl ?_
    refine JX_i2l (v := r.toInt64) (pc1 := 9) dL_reconfigure_8 rfl rfl ?_
    refine JX_last (pc1 := 10) dL_reconfigure_9 rfl ?_
    refine JX_goto (tgt := 29) dL_reconfigure_10 (by decide) ?_
    refine JX_iconst (v := 0) (pc1 := 30) dL_reconfigure_29 (by decide) rfl ?_
    exact JX_iretW hr hlk ⟨by rw [h0]; rfl, cSt_fr hw hBu hsv hF hR9, fun _ => ⟨r, rfl, hv⟩⟩ hI (Nat.le_of_ble_eq_true rfl) (Nat.le_of_ble_eq_true rfl) dL_reconfigure_30
  | .inl (ex, μ9), hq, hp =>
    obtain ⟨hc0, hex, hF, hR9⟩ := hp
    have hz : (zaConf S a1.toInt a2.toInt).1 = 1 ∨ (zaConf S a1.toInt a2.toInt).1 = 2 ∨ (zaConf S a1.toInt a2.toInt).1 = 3 ∨ (zaConf S a1.toInt a2.toInt).1 = 4 := by have := zc_Conf (S := S) (a := a1.toInt) (g := a2.toInt); omega
    rcases hz with e | e | e | e
    · rw [e] at hex
      have hex2 : ex = gX 2 := hex
      subst hex2
      refine JX_catchB (i0 := 2) (h1 := 13) (ce := 1) (sl := 6) (pre := []) (x := ⟨0, 10, 13, 26⟩) (suf := [⟨0, 10, 17, 13⟩, ⟨0, 10, 21, 31⟩, ⟨0, 10, 25, 39⟩]) (st := [.int 0, .ref x1]) (As := [.int a1, .int a2]) hI mxL_sE (tX6_reconfigure l D tc sa adb nc hnc hIb a1 a2 μc hlz (gX 2) μ9 hq) wcX6_reconfigure wlL_41 (eC0 (nc := nc)) rfl rfl rfl ⟨rfl, rfl, Nat.le_of_ble_eq_true rfl, Nat.le_of_ble_eq_true rfl⟩ ⟨Nat.le_of_ble_eq_true rfl, Nat.le_of_ble_eq_true rfl⟩ (Nat.le_of_ble_eq_true rfl) dL_reconfigure_5 (by decide) (htab.trans rfl) (fun z hz => absurd hz List.not_mem_nil) rfl (by decide) clL_26 rfl rfl rfl (fun q9 => ?_)
      refine JX_astore (i := 4) (lv1 := [(4, .ref q9), (0, .ref (adb 0 0)), (1, .int a1), (2, .int a2), (3, .ref x1)]) (pc1 := 15) dL_reconfigure_13 (by decide) rfl rfl ?_
      refine JX_iconst (v := 1) (pc1 := 16) dL_reconfigure_15 (by decide) rfl ?_
      exact JX_iretW hr hlk ⟨by rw [e]; rfl, cSt_fr hw hBu hsv hF hR9, fun z => absurd (e.symm.trans z) (by decide)⟩ hI (Nat.le_of_ble_eq_true rfl) (Nat.le_of_ble_eq_true rfl) dL_reconfigure_16
    · rw [e] at hex
      have hex2 : ex = gX 0 := hex
      subst hex2
      refine JX_catchB (i0 := 0) (h1 := 17) (ce := 1) (sl := 6) (pre := [⟨0, 10, 13, 26⟩]) (x := ⟨0, 10, 17, 13⟩) (suf := [⟨0, 10, 21, 31⟩, ⟨0, 10, 25, 39⟩]) (st := [.int 0, .ref x1]) (As := [.int a1, .int a2]) hI mxL_sE (tX6_reconfigure l D tc sa adb nc hnc hIb a1 a2 μc hlz (gX 0) μ9 hq) wcX6_reconfigure wlL_41 (eC0 (nc := nc)) rfl rfl rfl ⟨rfl, rfl, Nat.le_of_ble_eq_true rfl, Nat.le_of_ble_eq_true rfl⟩ ⟨Nat.le_of_ble_eq_true rfl, Nat.le_of_ble_eq_true rfl⟩ (Nat.le_of_ble_eq_true rfl) dL_reconfigure_5 (by decide) (htab.trans rfl) (List.forall_mem_cons.mpr ⟨⟨by decide, 2, by decide, by decide, clL_26⟩, (fun z hz => absurd hz List.not_mem_nil)⟩) rfl (by decide) clL_13 rfl rfl rfl (fun q9 => ?_)
      refine JX_astore (i := 4) (lv1 := [(4, .ref q9), (0, .ref (adb 0 0)), (1, .int a1), (2, .int a2), (3, .ref x1)]) (pc1 := 19) dL_reconfigure_17 (by decide) rfl rfl ?_
      refine JX_iconst (v := 2) (pc1 := 20) dL_reconfigure_19 (by decide) rfl ?_
      exact JX_iretW hr hlk ⟨by rw [e]; rfl, cSt_fr hw hBu hsv hF hR9, fun z => absurd (e.symm.trans z) (by decide)⟩ hI (Nat.le_of_ble_eq_true rfl) (Nat.le_of_ble_eq_true rfl) dL_reconfigure_20
    · rw [e] at hex
      have hex2 : ex = gX 1 := hex
      subst hex2
      refine JX_catchB (i0 := 1) (h1 := 21) (ce := 1) (sl := 6) (pre := [⟨0, 10, 13, 26⟩, ⟨0, 10, 17, 13⟩]) (x := ⟨0, 10, 21, 31⟩) (suf := [⟨0, 10, 25, 39⟩]) (st := [.int 0, .ref x1]) (As := [.int a1, .int a2]) hI mxL_sE (tX6_reconfigure l D tc sa adb nc hnc hIb a1 a2 μc hlz (gX 1) μ9 hq) wcX6_reconfigure wlL_41 (eC0 (nc := nc)) rfl rfl rfl ⟨rfl, rfl, Nat.le_of_ble_eq_true rfl, Nat.le_of_ble_eq_true rfl⟩ ⟨Nat.le_of_ble_eq_true rfl, Nat.le_of_ble_eq_true rfl⟩ (Nat.le_of_ble_eq_true rfl) dL_reconfigure_5 (by decide) (htab.trans rfl) (List.forall_mem_cons.mpr ⟨⟨by decide, 2, by decide, by decide, clL_26⟩, (List.forall_mem_cons.mpr ⟨⟨by decide, 0, by decide, by decide, clL_13⟩, (fun z hz => absurd hz List.not_mem_nil)⟩)⟩) rfl (by decide) clL_31 rfl rfl rfl (fun q9 => ?_)
      refine JX_astore (i := 4) (lv1 := [(4, .ref q9), (0, .ref (adb 0 0)), (1, .int a1), (2, .int a2), (3, .ref x1)]) (pc1 := 23) dL_reconfigure_21 (by decide) rfl rfl ?_
      refine JX_iconst (v := 3) (pc1 := 24) dL_reconfigure_23 (by decide) rfl ?_
      exact JX_iretW hr hlk ⟨by rw [e]; rfl, cSt_fr hw hBu hsv hF hR9, fun z => absurd (e.symm.trans z) (by decide)⟩ hI (Nat.le_of_ble_eq_true rfl) (Nat.le_of_ble_eq_true rfl) dL_reconfigure_24
    · rw [e] at hex
      have hex2 : ex = gX 3 := hex
      subst hex2
      refine JX_catchB (i0 := 3) (h1 := 25) (ce := 1) (sl := 6) (pre := [⟨0, 10, 13, 26⟩, ⟨0, 10, 17, 13⟩, ⟨0, 10, 21, 31⟩]) (x := ⟨0, 10, 25, 39⟩) (suf := []) (st := [.int 0, .ref x1]) (As := [.int a1, .int a2]) hI mxL_sE (tX6_reconfigure l D tc sa adb nc hnc hIb a1 a2 μc hlz (gX 3) μ9 hq) wcX6_reconfigure wlL_41 (eC0 (nc := nc)) rfl rfl rfl ⟨rfl, rfl, Nat.le_of_ble_eq_true rfl, Nat.le_of_ble_eq_true rfl⟩ ⟨Nat.le_of_ble_eq_true rfl, Nat.le_of_ble_eq_true rfl⟩ (Nat.le_of_ble_eq_true rfl) dL_reconfigure_5 (by decide) (htab.trans rfl) (List.forall_mem_cons.mpr ⟨⟨by decide, 2, by decide, by decide, clL_26⟩, (List.forall_mem_cons.mpr ⟨⟨by decide, 0, by decide, by decide, clL_13⟩, (List.forall_mem_cons.mpr ⟨⟨by decide, 1, by decide, by decide, clL_31⟩, (fun z hz => absurd hz List.not_mem_nil)⟩)⟩)⟩) rfl (by decide) clL_39 rfl rfl rfl (fun q9 => ?_)
      refine JX_astore (i := 4) (lv1 := [(4, .ref q9), (0, .ref (adb 0 0)), (1, .int a1), (2, .int a2), (3, .ref x1)]) (pc1 := 27) dL_reconfigure_25 (by decide) rfl rfl ?_
      refine JX_iconst (v := 4) (pc1 := 28) dL_reconfigure_27 (by decide) rfl ?_
      exact JX_iretW hr hlk ⟨by rw [e]; rfl, cSt_fr hw hBu hsv hF hR9, fun z => absurd (e.symm.trans z) (by decide)⟩ hI (Nat.le_of_ble_eq_true rfl) (Nat.le_of_ble_eq_true rfl) dL_reconfigure_28
theorem lW_pack (hlz : l.stackTraces = false) (hS : cSt a0 S sv β len T E kd ad rh μ) (hZ : zJ n S) (hn : n ≤ 600) : wMet l yL_pack cL_pack 4 [(0, 9, 12, 26), (0, 9, 15, 31)] ({ frames := 14, cells := 1, slots := 6, locals := 1000 } : Room) D E kd tc ad rh sa cJ cD x1 x2 v8 d8 [.ref a0, .int a1, .ref x1] μ (lPo1 a0 (zaPack S a1.toInt).1 (zaPack S a1.toInt).2.1 (zaPack S a1.toInt).2.2 sv β len T) := by
  obtain ⟨nc, cp, N0, ada, adb, ml, arr, μc, rfl, rfl, rfl, rfl, rfl, rfl, hw, hR, hBu, hsv⟩ := hS
  have hnc := hsv_nc hsv
  have hI := hw.1
  have hIb := gI_mxb hI
  have hY : RY (zB n) μc 0 S := ⟨hR, hZ.1, by have := zB_lt hn; omega⟩
  have hBn := zB_lt hn
  obtain ⟨q, hq, hp⟩ := mX6_pack_ok (nc := nc) (a1 := a1) hY hnc.1
  refine wMet_of hI ⟨by decide +kernel, Nat.le_of_ble_eq_true rfl⟩ (fun p e s m args below meth c sz hr hlk htab => ?_)
  show JX cJ cD x1 x2 v8 d8 p l e ({ frames := 14, cells := 1, slots := 6, locals := 1000 } : Room) s m args below meth c cL_pack 4 RL D (mxE sE (gE_C nc)) (mxK (sKd cp N0) gkd_C) tc (mxA ada adb) (mxR sRh (grh_C nc)) sa (wA (mxE sE (gE_C nc)) (mxA ada adb) x1 x2 sz) s.heap 0 0 (MQ below (wQ D tc cJ cD x1 x2 (mxE sE (gE_C nc)) (mxA ada adb) sz (lPo1 (adb 0 0) (zaPack S a1.toInt).1 (zaPack S a1.toInt).2.1 (zaPack S a1.toInt).2.2 sv β len T)) args s 1 6 (wA (mxE sE (gE_C nc)) (mxA ada adb) x1 x2 sz)) (mxM (sM T.length ml arr) μc) 0 [(0, .ref (adb 0 0)), (1, .int a1), (2, .ref x1)] []
  refine JX_aload_n (i := 2) (q := 2) (pc1 := 1) dL_pack_0 rfl rfl rfl ?_
  refine JX_iconst (v := 0) (pc1 := 2) dL_pack_1 (by decide) rfl ?_
  refine JX_aload_n (i := 0) (q := 0) (pc1 := 3) dL_pack_2 rfl rfl rfl ?_
  refine JX_iload_n (i := 1) (q := 1) (pc1 := 4) dL_pack_3 rfl rfl rfl ?_
  match q, hq, hp with
  | .inr (r, μ9), hq, hp =>
    obtain ⟨h0, hv, hF, hR9⟩ := hp
    refine JX_mixB (o := some (.int r)) (μ1 := μ9) (pc1 := 7) (st := [.int 0, .ref x1]) (st1 := [.int r, .int 0, .ref x1]) (ce := 0) (sl := 0) hI mxL_sE (J_hV (st := [.int 0, .ref x1]) (As := [.int a1]) (gMet.G hIb ⟨rfl, rfl⟩ (kX6_pack l D tc sa adb nc hnc hIb a1 μc r μ9 hq)) wcX6_pack rfl wlL_44 mxA_b.symm (mxE_b (eC0 (nc := nc))) rfl rfl rfl ⟨Nat.le_of_ble_eq_true rfl, Nat.le_of_ble_eq_true rfl⟩ ⟨Nat.le_of_ble_eq_true rfl, Nat.le_of_ble_eq_true rfl⟩ (Nat.le_of_ble_eq_true rfl) dL_pack_4) rfl rfl rfl rfl ?_
    refine JX_i2l (v := r.toInt64) (pc1 := 8) dL_pack_7 rfl rfl ?_
    refine JX_last (pc1 := 9) dL_pack_8 rfl ?_
    refine JX_goto (tgt := 18) dL_pack_9 (by decide) ?_
    refine JX_iconst (v := 0) (pc1 := 19) dL_pack_18 (by decide) rfl ?_
    exact JX_iretW hr hlk ⟨by rw [h0]; rfl, cSt_fr hw hBu hsv hF hR9, fun _ => ⟨r, rfl, hv⟩⟩ hI (Nat.le_of_ble_eq_true rfl) (Nat.le_of_ble_eq_true rfl) dL_pack_19
  | .inl (ex, μ9), hq, hp =>
    obtain ⟨hc0, hex, hF, hR9⟩ := hp
    have hz : (zaPack S a1.toInt).1 = 1 ∨ (zaPack S a1.toInt).1 = 2 := by have := zc_Pack (S := S) (a := a1.toInt); omega
    rcases hz with e | e
    · rw [e] at hex
      have hex2 : ex = gX 2 := hex
      subst hex2
      refine JX_catchB (i0 := 2) (h1 := 12) (ce := 1) (sl := 6) (pre := []) (x := ⟨0, 9, 12, 26⟩) (suf := [⟨0, 9, 15, 31⟩]) (st := [.int 0, .ref x1]) (As := [.int a1]) hI mxL_sE (tX6_pack l D tc sa adb nc hnc hIb a1 μc hlz (gX 2) μ9 hq) wcX6_pack wlL_44 (eC0 (nc := nc)) rfl rfl rfl ⟨rfl, rfl, Nat.le_of_ble_eq_true rfl, Nat.le_of_ble_eq_true rfl⟩ ⟨Nat.le_of_ble_eq_true rfl, Nat.le_of_ble_eq_true rfl⟩ (Nat.le_of_ble_eq_true rfl) dL_pack_4 (by decide) (htab.trans rfl) (fun z hz => absurd hz List.not_mem_nil) rfl (by decide) clL_26 rfl rfl rfl (fun q9 => ?_)
      refine JX_astore_n (i := 3) (lv1 := [(3, .ref q9), (0, .ref (adb 0 0)), (1, .int a1), (2, .ref x1)]) (pc1 := 13) dL_pack_12 rfl (by decide) rfl rfl ?_
      refine JX_iconst (v := 1) (pc1 := 14) dL_pack_13 (by decide) rfl ?_
      exact JX_iretW hr hlk ⟨by rw [e]; rfl, cSt_fr hw hBu hsv hF hR9, fun z => absurd (e.symm.trans z) (by decide)⟩ hI (Nat.le_of_ble_eq_true rfl) (Nat.le_of_ble_eq_true rfl) dL_pack_14
    · rw [e] at hex
      have hex2 : ex = gX 1 := hex
      subst hex2
      refine JX_catchB (i0 := 1) (h1 := 15) (ce := 1) (sl := 6) (pre := [⟨0, 9, 12, 26⟩]) (x := ⟨0, 9, 15, 31⟩) (suf := []) (st := [.int 0, .ref x1]) (As := [.int a1]) hI mxL_sE (tX6_pack l D tc sa adb nc hnc hIb a1 μc hlz (gX 1) μ9 hq) wcX6_pack wlL_44 (eC0 (nc := nc)) rfl rfl rfl ⟨rfl, rfl, Nat.le_of_ble_eq_true rfl, Nat.le_of_ble_eq_true rfl⟩ ⟨Nat.le_of_ble_eq_true rfl, Nat.le_of_ble_eq_true rfl⟩ (Nat.le_of_ble_eq_true rfl) dL_pack_4 (by decide) (htab.trans rfl) (List.forall_mem_cons.mpr ⟨⟨by decide, 2, by decide, by decide, clL_26⟩, (fun z hz => absurd hz List.not_mem_nil)⟩) rfl (by decide) clL_31 rfl rfl rfl (fun q9 => ?_)
      refine JX_astore_n (i := 3) (lv1 := [(3, .ref q9), (0, .ref (adb 0 0)), (1, .int a1), (2, .ref x1)]) (pc1 := 16) dL_pack_15 rfl (by decide) rfl rfl ?_
      refine JX_iconst (v := 2) (pc1 := 17) dL_pack_16 (by decide) rfl ?_
      exact JX_iretW hr hlk ⟨by rw [e]; rfl, cSt_fr hw hBu hsv hF hR9, fun z => absurd (e.symm.trans z) (by decide)⟩ hI (Nat.le_of_ble_eq_true rfl) (Nat.le_of_ble_eq_true rfl) dL_pack_17
theorem lW_read (hlz : l.stackTraces = false) (hS : cSt a0 S sv β len T E kd ad rh μ) (hZ : zJ n S) (hn : n ≤ 600) : wMet l yL_read cL_read 4 [(0, 9, 12, 26), (0, 9, 15, 31), (0, 9, 18, 39)] ({ frames := 14, cells := 1, slots := 6, locals := 1000 } : Room) D E kd tc ad rh sa cJ cD x1 x2 v8 d8 [.ref a0, .int a1, .ref x1] μ (lPo1 a0 (zaRead S a1.toInt).1 (zaRead S a1.toInt).2.1 (zaRead S a1.toInt).2.2 sv β len T) := by
  obtain ⟨nc, cp, N0, ada, adb, ml, arr, μc, rfl, rfl, rfl, rfl, rfl, rfl, hw, hR, hBu, hsv⟩ := hS
  have hnc := hsv_nc hsv
  have hI := hw.1
  have hIb := gI_mxb hI
  have hY : RY (zB n) μc 0 S := ⟨hR, hZ.1, by have := zB_lt hn; omega⟩
  have hBn := zB_lt hn
  obtain ⟨q, hq, hp⟩ := mX6_read_ok (nc := nc) (a1 := a1) hY hnc.1
  refine wMet_of hI ⟨by decide +kernel, Nat.le_of_ble_eq_true rfl⟩ (fun p e s m args below meth c sz hr hlk htab => ?_)
  show JX cJ cD x1 x2 v8 d8 p l e ({ frames := 14, cells := 1, slots := 6, locals := 1000 } : Room) s m args below meth c cL_read 4 RL D (mxE sE (gE_C nc)) (mxK (sKd cp N0) gkd_C) tc (mxA ada adb) (mxR sRh (grh_C nc)) sa (wA (mxE sE (gE_C nc)) (mxA ada adb) x1 x2 sz) s.heap 0 0 (MQ below (wQ D tc cJ cD x1 x2 (mxE sE (gE_C nc)) (mxA ada adb) sz (lPo1 (adb 0 0) (zaRead S a1.toInt).1 (zaRead S a1.toInt).2.1 (zaRead S a1.toInt).2.2 sv β len T)) args s 1 6 (wA (mxE sE (gE_C nc)) (mxA ada adb) x1 x2 sz)) (mxM (sM T.length ml arr) μc) 0 [(0, .ref (adb 0 0)), (1, .int a1), (2, .ref x1)] []
  refine JX_aload_n (i := 2) (q := 2) (pc1 := 1) dL_read_0 rfl rfl rfl ?_
  refine JX_iconst (v := 0) (pc1 := 2) dL_read_1 (by decide) rfl ?_
  refine JX_aload_n (i := 0) (q := 0) (pc1 := 3) dL_read_2 rfl rfl rfl ?_
  refine JX_iload_n (i := 1) (q := 1) (pc1 := 4) dL_read_3 rfl rfl rfl ?_
  match q, hq, hp with
  | .inr r, hq, hp =>
    obtain ⟨h0, hv⟩ := hp
    refine JX_mixB (o := some (.int r)) (μ1 := μc) (pc1 := 7) (st := [.int 0, .ref x1]) (st1 := [.int r, .int 0, .ref x1]) (ce := 0) (sl := 0) hI mxL_sE (J_hV (st := [.int 0, .ref x1]) (As := [.int a1]) (gMet.G hIb ⟨rfl, rfl⟩ (kX6_read l D tc sa adb nc hnc hIb a1 μc r hq)) wcX6_read rfl wlL_47 mxA_b.symm (mxE_b (eC0 (nc := nc))) rfl rfl rfl ⟨Nat.le_of_ble_eq_true rfl, Nat.le_of_ble_eq_true rfl⟩ ⟨Nat.le_of_ble_eq_true rfl, Nat.le_of_ble_eq_true rfl⟩ (Nat.le_of_ble_eq_true rfl) dL_read_4) rfl rfl rfl rfl ?_
    refine JX_i2l (v := r.toInt64) (pc1 := 8) dL_read_7 rfl rfl ?_
    refine JX_last (pc1 := 9) dL_read_8 rfl ?_
    refine JX_goto (tgt := 21) dL_read_9 (by decide) ?_
    refine JX_iconst (v := 0) (pc1 := 22) dL_read_21 (by decide) rfl ?_
    exact JX_iretW hr hlk ⟨by rw [h0]; rfl, cSt_fr hw hBu hsv gFr.rf (by rw [zs_Read]; exact hR), fun _ => ⟨r, rfl, hv⟩⟩ hI (Nat.le_of_ble_eq_true rfl) (Nat.le_of_ble_eq_true rfl) dL_read_22
  | .inl (ex, μ9), hq, hp =>
    obtain ⟨hc0, hex, hm9⟩ := hp
    have hm9 : μ9 = μc := hm9
    subst hm9
    have hz : (zaRead S a1.toInt).1 = 1 ∨ (zaRead S a1.toInt).1 = 2 ∨ (zaRead S a1.toInt).1 = 3 := by have := zc_Read (S := S) (a := a1.toInt); omega
    rcases hz with e | e | e
    · rw [e] at hex
      have hex2 : ex = gX 2 := hex
      subst hex2
      refine JX_catchB (i0 := 2) (h1 := 12) (ce := 1) (sl := 6) (pre := []) (x := ⟨0, 9, 12, 26⟩) (suf := [⟨0, 9, 15, 31⟩, ⟨0, 9, 18, 39⟩]) (st := [.int 0, .ref x1]) (As := [.int a1]) hI mxL_sE (tX6_read l D tc sa adb nc hnc hIb a1 μ9 hlz (gX 2) μ9 hq) wcX6_read wlL_47 (eC0 (nc := nc)) rfl rfl rfl ⟨rfl, rfl, Nat.le_of_ble_eq_true rfl, Nat.le_of_ble_eq_true rfl⟩ ⟨Nat.le_of_ble_eq_true rfl, Nat.le_of_ble_eq_true rfl⟩ (Nat.le_of_ble_eq_true rfl) dL_read_4 (by decide) (htab.trans rfl) (fun z hz => absurd hz List.not_mem_nil) rfl (by decide) clL_26 rfl rfl rfl (fun q9 => ?_)
      refine JX_astore_n (i := 3) (lv1 := [(3, .ref q9), (0, .ref (adb 0 0)), (1, .int a1), (2, .ref x1)]) (pc1 := 13) dL_read_12 rfl (by decide) rfl rfl ?_
      refine JX_iconst (v := 1) (pc1 := 14) dL_read_13 (by decide) rfl ?_
      exact JX_iretW hr hlk ⟨by rw [e]; rfl, cSt_fr hw hBu hsv gFr.rf (by rw [zs_Read]; exact hR), fun z => absurd (e.symm.trans z) (by decide)⟩ hI (Nat.le_of_ble_eq_true rfl) (Nat.le_of_ble_eq_true rfl) dL_read_14
    · rw [e] at hex
      have hex2 : ex = gX 1 := hex
      subst hex2
      refine JX_catchB (i0 := 1) (h1 := 15) (ce := 1) (sl := 6) (pre := [⟨0, 9, 12, 26⟩]) (x := ⟨0, 9, 15, 31⟩) (suf := [⟨0, 9, 18, 39⟩]) (st := [.int 0, .ref x1]) (As := [.int a1]) hI mxL_sE (tX6_read l D tc sa adb nc hnc hIb a1 μ9 hlz (gX 1) μ9 hq) wcX6_read wlL_47 (eC0 (nc := nc)) rfl rfl rfl ⟨rfl, rfl, Nat.le_of_ble_eq_true rfl, Nat.le_of_ble_eq_true rfl⟩ ⟨Nat.le_of_ble_eq_true rfl, Nat.le_of_ble_eq_true rfl⟩ (Nat.le_of_ble_eq_true rfl) dL_read_4 (by decide) (htab.trans rfl) (List.forall_mem_cons.mpr ⟨⟨by decide, 2, by decide, by decide, clL_26⟩, (fun z hz => absurd hz List.not_mem_nil)⟩) rfl (by decide) clL_31 rfl rfl rfl (fun q9 => ?_)
      refine JX_astore_n (i := 3) (lv1 := [(3, .ref q9), (0, .ref (adb 0 0)), (1, .int a1), (2, .ref x1)]) (pc1 := 16) dL_read_15 rfl (by decide) rfl rfl ?_
      refine JX_iconst (v := 2) (pc1 := 17) dL_read_16 (by decide) rfl ?_
      exact JX_iretW hr hlk ⟨by rw [e]; rfl, cSt_fr hw hBu hsv gFr.rf (by rw [zs_Read]; exact hR), fun z => absurd (e.symm.trans z) (by decide)⟩ hI (Nat.le_of_ble_eq_true rfl) (Nat.le_of_ble_eq_true rfl) dL_read_17
    · rw [e] at hex
      have hex2 : ex = gX 3 := hex
      subst hex2
      refine JX_catchB (i0 := 3) (h1 := 18) (ce := 1) (sl := 6) (pre := [⟨0, 9, 12, 26⟩, ⟨0, 9, 15, 31⟩]) (x := ⟨0, 9, 18, 39⟩) (suf := []) (st := [.int 0, .ref x1]) (As := [.int a1]) hI mxL_sE (tX6_read l D tc sa adb nc hnc hIb a1 μ9 hlz (gX 3) μ9 hq) wcX6_read wlL_47 (eC0 (nc := nc)) rfl rfl rfl ⟨rfl, rfl, Nat.le_of_ble_eq_true rfl, Nat.le_of_ble_eq_true rfl⟩ ⟨Nat.le_of_ble_eq_true rfl, Nat.le_of_ble_eq_true rfl⟩ (Nat.le_of_ble_eq_true rfl) dL_read_4 (by decide) (htab.trans rfl) (List.forall_mem_cons.mpr ⟨⟨by decide, 2, by decide, by decide, clL_26⟩, (List.forall_mem_cons.mpr ⟨⟨by decide, 1, by decide, by decide, clL_31⟩, (fun z hz => absurd hz List.not_mem_nil)⟩)⟩) rfl (by decide) clL_39 rfl rfl rfl (fun q9 => ?_)
      refine JX_astore_n (i := 3) (lv1 := [(3, .ref q9), (0, .ref (adb 0 0)), (1, .int a1), (2, .ref x1)]) (pc1 := 19) dL_read_18 rfl (by decide) rfl rfl ?_
      refine JX_iconst (v := 3) (pc1 := 20) dL_read_19 (by decide) rfl ?_
      exact JX_iretW hr hlk ⟨by rw [e]; rfl, cSt_fr hw hBu hsv gFr.rf (by rw [zs_Read]; exact hR), fun z => absurd (e.symm.trans z) (by decide)⟩ hI (Nat.le_of_ble_eq_true rfl) (Nat.le_of_ble_eq_true rfl) dL_read_20
theorem lW_node (hlz : l.stackTraces = false) (hS : cSt a0 S sv β len T E kd ad rh μ) (hZ : zJ n S) (hn : n ≤ 600) : wMet l yL_node cL_node 5 [(0, 10, 13, 26), (0, 10, 17, 13)] ({ frames := 14, cells := 1, slots := 6, locals := 1000 } : Room) D E kd tc ad rh sa cJ cD x1 x2 v8 d8 [.ref a0, .int a1, .int a2, .ref x1] μ (lPo1 a0 (zaNode S a1.toInt a2.toInt).1 (zaNode S a1.toInt a2.toInt).2.1 (zaNode S a1.toInt a2.toInt).2.2 sv β len T) := by
  obtain ⟨nc, cp, N0, ada, adb, ml, arr, μc, rfl, rfl, rfl, rfl, rfl, rfl, hw, hR, hBu, hsv⟩ := hS
  have hnc := hsv_nc hsv
  have hI := hw.1
  have hIb := gI_mxb hI
  have hY : RY (zB n) μc 0 S := ⟨hR, hZ.1, by have := zB_lt hn; omega⟩
  have hBn := zB_lt hn
  obtain ⟨q, hq, hp⟩ := mX6_node_ok (nc := nc) (a1 := a1) (a2 := a2) hY hnc.1
  refine wMet_of hI ⟨by decide +kernel, Nat.le_of_ble_eq_true rfl⟩ (fun p e s m args below meth c sz hr hlk htab => ?_)
  show JX cJ cD x1 x2 v8 d8 p l e ({ frames := 14, cells := 1, slots := 6, locals := 1000 } : Room) s m args below meth c cL_node 5 RL D (mxE sE (gE_C nc)) (mxK (sKd cp N0) gkd_C) tc (mxA ada adb) (mxR sRh (grh_C nc)) sa (wA (mxE sE (gE_C nc)) (mxA ada adb) x1 x2 sz) s.heap 0 0 (MQ below (wQ D tc cJ cD x1 x2 (mxE sE (gE_C nc)) (mxA ada adb) sz (lPo1 (adb 0 0) (zaNode S a1.toInt a2.toInt).1 (zaNode S a1.toInt a2.toInt).2.1 (zaNode S a1.toInt a2.toInt).2.2 sv β len T)) args s 1 6 (wA (mxE sE (gE_C nc)) (mxA ada adb) x1 x2 sz)) (mxM (sM T.length ml arr) μc) 0 [(0, .ref (adb 0 0)), (1, .int a1), (2, .int a2), (3, .ref x1)] []
  refine JX_aload_n (i := 3) (q := 3) (pc1 := 1) dL_node_0 rfl rfl rfl ?_
  refine JX_iconst (v := 0) (pc1 := 2) dL_node_1 (by decide) rfl ?_
  refine JX_aload_n (i := 0) (q := 0) (pc1 := 3) dL_node_2 rfl rfl rfl ?_
  refine JX_iload_n (i := 1) (q := 1) (pc1 := 4) dL_node_3 rfl rfl rfl ?_
  refine JX_iload_n (i := 2) (q := 2) (pc1 := 5) dL_node_4 rfl rfl rfl ?_
  match q, hq, hp with
  | .inr r, hq, hp =>
    obtain ⟨h0, hv⟩ := hp
    refine JX_mixB (o := some (.int r)) (μ1 := μc) (pc1 := 8) (st := [.int 0, .ref x1]) (st1 := [.int r, .int 0, .ref x1]) (ce := 0) (sl := 0) hI mxL_sE (J_hV (st := [.int 0, .ref x1]) (As := [.int a1, .int a2]) (gMet.G hIb ⟨rfl, rfl⟩ (kX6_node l D tc sa adb nc hnc hIb a1 a2 μc r hq)) wcX6_node rfl wlL_50 mxA_b.symm (mxE_b (eC0 (nc := nc))) rfl rfl rfl ⟨Nat.le_of_ble_eq_true rfl, Nat.le_of_ble_eq_true rfl⟩ ⟨Nat.le_of_ble_eq_true rfl, Nat.le_of_ble_eq_true rfl⟩ (Nat.le_of_ble_eq_true rfl) dL_node_5) rfl rfl rfl rfl ?_
    refine JX_i2l (v := r.toInt64) (pc1 := 9) dL_node_8 rfl rfl ?_
    refine JX_last (pc1 := 10) dL_node_9 rfl ?_
    refine JX_goto (tgt := 21) dL_node_10 (by decide) ?_
    refine JX_iconst (v := 0) (pc1 := 22) dL_node_21 (by decide) rfl ?_
    exact JX_iretW hr hlk ⟨by rw [h0]; rfl, cSt_fr hw hBu hsv gFr.rf (by rw [zs_Node]; exact hR), fun _ => ⟨r, rfl, hv⟩⟩ hI (Nat.le_of_ble_eq_true rfl) (Nat.le_of_ble_eq_true rfl) dL_node_22
  | .inl (ex, μ9), hq, hp =>
    obtain ⟨hc0, hex, hm9⟩ := hp
    have hm9 : μ9 = μc := hm9
    subst hm9
    have hz : (zaNode S a1.toInt a2.toInt).1 = 1 ∨ (zaNode S a1.toInt a2.toInt).1 = 2 := by have := zc_Node (S := S) (a := a1.toInt) (w := a2.toInt); omega
    rcases hz with e | e
    · rw [e] at hex
      have hex2 : ex = gX 2 := hex
      subst hex2
      refine JX_catchB (i0 := 2) (h1 := 13) (ce := 1) (sl := 6) (pre := []) (x := ⟨0, 10, 13, 26⟩) (suf := [⟨0, 10, 17, 13⟩]) (st := [.int 0, .ref x1]) (As := [.int a1, .int a2]) hI mxL_sE (tX6_node l D tc sa adb nc hnc hIb a1 a2 μ9 hlz (gX 2) μ9 hq) wcX6_node wlL_50 (eC0 (nc := nc)) rfl rfl rfl ⟨rfl, rfl, Nat.le_of_ble_eq_true rfl, Nat.le_of_ble_eq_true rfl⟩ ⟨Nat.le_of_ble_eq_true rfl, Nat.le_of_ble_eq_true rfl⟩ (Nat.le_of_ble_eq_true rfl) dL_node_5 (by decide) (htab.trans rfl) (fun z hz => absurd hz List.not_mem_nil) rfl (by decide) clL_26 rfl rfl rfl (fun q9 => ?_)
      refine JX_astore (i := 4) (lv1 := [(4, .ref q9), (0, .ref (adb 0 0)), (1, .int a1), (2, .int a2), (3, .ref x1)]) (pc1 := 15) dL_node_13 (by decide) rfl rfl ?_
      refine JX_iconst (v := 1) (pc1 := 16) dL_node_15 (by decide) rfl ?_
      exact JX_iretW hr hlk ⟨by rw [e]; rfl, cSt_fr hw hBu hsv gFr.rf (by rw [zs_Node]; exact hR), fun z => absurd (e.symm.trans z) (by decide)⟩ hI (Nat.le_of_ble_eq_true rfl) (Nat.le_of_ble_eq_true rfl) dL_node_16
    · rw [e] at hex
      have hex2 : ex = gX 0 := hex
      subst hex2
      refine JX_catchB (i0 := 0) (h1 := 17) (ce := 1) (sl := 6) (pre := [⟨0, 10, 13, 26⟩]) (x := ⟨0, 10, 17, 13⟩) (suf := []) (st := [.int 0, .ref x1]) (As := [.int a1, .int a2]) hI mxL_sE (tX6_node l D tc sa adb nc hnc hIb a1 a2 μ9 hlz (gX 0) μ9 hq) wcX6_node wlL_50 (eC0 (nc := nc)) rfl rfl rfl ⟨rfl, rfl, Nat.le_of_ble_eq_true rfl, Nat.le_of_ble_eq_true rfl⟩ ⟨Nat.le_of_ble_eq_true rfl, Nat.le_of_ble_eq_true rfl⟩ (Nat.le_of_ble_eq_true rfl) dL_node_5 (by decide) (htab.trans rfl) (List.forall_mem_cons.mpr ⟨⟨by decide, 2, by decide, by decide, clL_26⟩, (fun z hz => absurd hz List.not_mem_nil)⟩) rfl (by decide) clL_13 rfl rfl rfl (fun q9 => ?_)
      refine JX_astore (i := 4) (lv1 := [(4, .ref q9), (0, .ref (adb 0 0)), (1, .int a1), (2, .int a2), (3, .ref x1)]) (pc1 := 19) dL_node_17 (by decide) rfl rfl ?_
      refine JX_iconst (v := 2) (pc1 := 20) dL_node_19 (by decide) rfl ?_
      exact JX_iretW hr hlk ⟨by rw [e]; rfl, cSt_fr hw hBu hsv gFr.rf (by rw [zs_Node]; exact hR), fun z => absurd (e.symm.trans z) (by decide)⟩ hI (Nat.le_of_ble_eq_true rfl) (Nat.le_of_ble_eq_true rfl) dL_node_20
theorem lW_noted (hlz : l.stackTraces = false) (hS : cSt a0 S sv β len T E kd ad rh μ) (hZ : zJ n S) (hn : n ≤ 600) : wMet l yL_noted cL_noted 6 [(0, 12, 15, 26), (0, 12, 19, 13), (0, 12, 23, 31)] ({ frames := 14, cells := 1, slots := 6, locals := 1000 } : Room) D E kd tc ad rh sa cJ cD x1 x2 v8 d8 [.ref a0, .int a1, .int a2, .int a3, .ref x1] μ (lPo1 a0 (zaNoted S a1.toInt a2.toInt a3.toInt).1 (zaNoted S a1.toInt a2.toInt a3.toInt).2.1 (zaNoted S a1.toInt a2.toInt a3.toInt).2.2 sv β len T) := by
  obtain ⟨nc, cp, N0, ada, adb, ml, arr, μc, rfl, rfl, rfl, rfl, rfl, rfl, hw, hR, hBu, hsv⟩ := hS
  have hnc := hsv_nc hsv
  have hI := hw.1
  have hIb := gI_mxb hI
  have hY : RY (zB n) μc 0 S := ⟨hR, hZ.1, by have := zB_lt hn; omega⟩
  have hBn := zB_lt hn
  obtain ⟨q, hq, hp⟩ := mX6_noted_ok (nc := nc) (a1 := a1) (a2 := a2) (a3 := a3) hY hnc.1
  refine wMet_of hI ⟨by decide +kernel, Nat.le_of_ble_eq_true rfl⟩ (fun p e s m args below meth c sz hr hlk htab => ?_)
  show JX cJ cD x1 x2 v8 d8 p l e ({ frames := 14, cells := 1, slots := 6, locals := 1000 } : Room) s m args below meth c cL_noted 6 RL D (mxE sE (gE_C nc)) (mxK (sKd cp N0) gkd_C) tc (mxA ada adb) (mxR sRh (grh_C nc)) sa (wA (mxE sE (gE_C nc)) (mxA ada adb) x1 x2 sz) s.heap 0 0 (MQ below (wQ D tc cJ cD x1 x2 (mxE sE (gE_C nc)) (mxA ada adb) sz (lPo1 (adb 0 0) (zaNoted S a1.toInt a2.toInt a3.toInt).1 (zaNoted S a1.toInt a2.toInt a3.toInt).2.1 (zaNoted S a1.toInt a2.toInt a3.toInt).2.2 sv β len T)) args s 1 6 (wA (mxE sE (gE_C nc)) (mxA ada adb) x1 x2 sz)) (mxM (sM T.length ml arr) μc) 0 [(0, .ref (adb 0 0)), (1, .int a1), (2, .int a2), (3, .int a3), (4, .ref x1)] []
  refine JX_aload (i := 4) (q := 4) (pc1 := 2) dL_noted_0 rfl rfl ?_
  refine JX_iconst (v := 0) (pc1 := 3) dL_noted_2 (by decide) rfl ?_
  refine JX_aload_n (i := 0) (q := 0) (pc1 := 4) dL_noted_3 rfl rfl rfl ?_
  refine JX_iload_n (i := 1) (q := 1) (pc1 := 5) dL_noted_4 rfl rfl rfl ?_
  refine JX_iload_n (i := 2) (q := 2) (pc1 := 6) dL_noted_5 rfl rfl rfl ?_
  refine JX_iload_n (i := 3) (q := 3) (pc1 := 7) dL_noted_6 rfl rfl rfl ?_
  match q, hq, hp with
  | .inr r, hq, hp =>
    obtain ⟨h0, hv⟩ := hp
    refine JX_mixB (o := some (.int r)) (μ1 := μc) (pc1 := 10) (st := [.int 0, .ref x1]) (st1 := [.int r, .int 0, .ref x1]) (ce := 0) (sl := 0) hI mxL_sE (J_hV (st := [.int 0, .ref x1]) (As := [.int a1, .int a2, .int a3]) (gMet.G hIb ⟨rfl, rfl⟩ (kX6_noted l D tc sa adb nc hnc hIb a1 a2 a3 μc r hq)) wcX6_noted rfl wlL_53 mxA_b.symm (mxE_b (eC0 (nc := nc))) rfl rfl rfl ⟨Nat.le_of_ble_eq_true rfl, Nat.le_of_ble_eq_true rfl⟩ ⟨Nat.le_of_ble_eq_true rfl, Nat.le_of_ble_eq_true rfl⟩ (Nat.le_of_ble_eq_true rfl) dL_noted_7) rfl rfl rfl rfl ?_
    refine JX_i2l (v := r.toInt64) (pc1 := 11) dL_noted_10 rfl rfl ?_
    refine JX_last (pc1 := 12) dL_noted_11 rfl ?_
    refine JX_goto (tgt := 27) dL_noted_12 (by decide) ?_
    refine JX_iconst (v := 0) (pc1 := 28) dL_noted_27 (by decide) rfl ?_
    exact JX_iretW hr hlk ⟨by rw [h0]; rfl, cSt_fr hw hBu hsv gFr.rf (by rw [zs_Noted]; exact hR), fun _ => ⟨r, rfl, hv⟩⟩ hI (Nat.le_of_ble_eq_true rfl) (Nat.le_of_ble_eq_true rfl) dL_noted_28
  | .inl (ex, μ9), hq, hp =>
    obtain ⟨hc0, hex, hm9⟩ := hp
    have hm9 : μ9 = μc := hm9
    subst hm9
    have hz : (zaNoted S a1.toInt a2.toInt a3.toInt).1 = 1 ∨ (zaNoted S a1.toInt a2.toInt a3.toInt).1 = 2 ∨ (zaNoted S a1.toInt a2.toInt a3.toInt).1 = 3 := by have := zc_Noted (S := S) (a := a1.toInt) (b := a2.toInt) (w := a3.toInt); omega
    rcases hz with e | e | e
    · rw [e] at hex
      have hex2 : ex = gX 2 := hex
      subst hex2
      refine JX_catchB (i0 := 2) (h1 := 15) (ce := 1) (sl := 6) (pre := []) (x := ⟨0, 12, 15, 26⟩) (suf := [⟨0, 12, 19, 13⟩, ⟨0, 12, 23, 31⟩]) (st := [.int 0, .ref x1]) (As := [.int a1, .int a2, .int a3]) hI mxL_sE (tX6_noted l D tc sa adb nc hnc hIb a1 a2 a3 μ9 hlz (gX 2) μ9 hq) wcX6_noted wlL_53 (eC0 (nc := nc)) rfl rfl rfl ⟨rfl, rfl, Nat.le_of_ble_eq_true rfl, Nat.le_of_ble_eq_true rfl⟩ ⟨Nat.le_of_ble_eq_true rfl, Nat.le_of_ble_eq_true rfl⟩ (Nat.le_of_ble_eq_true rfl) dL_noted_7 (by decide) (htab.trans rfl) (fun z hz => absurd hz List.not_mem_nil) rfl (by decide) clL_26 rfl rfl rfl (fun q9 => ?_)
      refine JX_astore (i := 5) (lv1 := [(5, .ref q9), (0, .ref (adb 0 0)), (1, .int a1), (2, .int a2), (3, .int a3), (4, .ref x1)]) (pc1 := 17) dL_noted_15 (by decide) rfl rfl ?_
      refine JX_iconst (v := 1) (pc1 := 18) dL_noted_17 (by decide) rfl ?_
      exact JX_iretW hr hlk ⟨by rw [e]; rfl, cSt_fr hw hBu hsv gFr.rf (by rw [zs_Noted]; exact hR), fun z => absurd (e.symm.trans z) (by decide)⟩ hI (Nat.le_of_ble_eq_true rfl) (Nat.le_of_ble_eq_true rfl) dL_noted_18
    · rw [e] at hex
      have hex2 : ex = gX 0 := hex
      subst hex2
      refine JX_catchB (i0 := 0) (h1 := 19) (ce := 1) (sl := 6) (pre := [⟨0, 12, 15, 26⟩]) (x := ⟨0, 12, 19, 13⟩) (suf := [⟨0, 12, 23, 31⟩]) (st := [.int 0, .ref x1]) (As := [.int a1, .int a2, .int a3]) hI mxL_sE (tX6_noted l D tc sa adb nc hnc hIb a1 a2 a3 μ9 hlz (gX 0) μ9 hq) wcX6_noted wlL_53 (eC0 (nc := nc)) rfl rfl rfl ⟨rfl, rfl, Nat.le_of_ble_eq_true rfl, Nat.le_of_ble_eq_true rfl⟩ ⟨Nat.le_of_ble_eq_true rfl, Nat.le_of_ble_eq_true rfl⟩ (Nat.le_of_ble_eq_true rfl) dL_noted_7 (by decide) (htab.trans rfl) (List.forall_mem_cons.mpr ⟨⟨by decide, 2, by decide, by decide, clL_26⟩, (fun z hz => absurd hz List.not_mem_nil)⟩) rfl (by decide) clL_13 rfl rfl rfl (fun q9 => ?_)
      refine JX_astore (i := 5) (lv1 := [(5, .ref q9), (0, .ref (adb 0 0)), (1, .int a1), (2, .int a2), (3, .int a3), (4, .ref x1)]) (pc1 := 21) dL_noted_19 (by decide) rfl rfl ?_
      refine JX_iconst (v := 2) (pc1 := 22) dL_noted_21 (by decide) rfl ?_
      exact JX_iretW hr hlk ⟨by rw [e]; rfl, cSt_fr hw hBu hsv gFr.rf (by rw [zs_Noted]; exact hR), fun z => absurd (e.symm.trans z) (by decide)⟩ hI (Nat.le_of_ble_eq_true rfl) (Nat.le_of_ble_eq_true rfl) dL_noted_22
    · rw [e] at hex
      have hex2 : ex = gX 1 := hex
      subst hex2
      refine JX_catchB (i0 := 1) (h1 := 23) (ce := 1) (sl := 6) (pre := [⟨0, 12, 15, 26⟩, ⟨0, 12, 19, 13⟩]) (x := ⟨0, 12, 23, 31⟩) (suf := []) (st := [.int 0, .ref x1]) (As := [.int a1, .int a2, .int a3]) hI mxL_sE (tX6_noted l D tc sa adb nc hnc hIb a1 a2 a3 μ9 hlz (gX 1) μ9 hq) wcX6_noted wlL_53 (eC0 (nc := nc)) rfl rfl rfl ⟨rfl, rfl, Nat.le_of_ble_eq_true rfl, Nat.le_of_ble_eq_true rfl⟩ ⟨Nat.le_of_ble_eq_true rfl, Nat.le_of_ble_eq_true rfl⟩ (Nat.le_of_ble_eq_true rfl) dL_noted_7 (by decide) (htab.trans rfl) (List.forall_mem_cons.mpr ⟨⟨by decide, 2, by decide, by decide, clL_26⟩, (List.forall_mem_cons.mpr ⟨⟨by decide, 0, by decide, by decide, clL_13⟩, (fun z hz => absurd hz List.not_mem_nil)⟩)⟩) rfl (by decide) clL_31 rfl rfl rfl (fun q9 => ?_)
      refine JX_astore (i := 5) (lv1 := [(5, .ref q9), (0, .ref (adb 0 0)), (1, .int a1), (2, .int a2), (3, .int a3), (4, .ref x1)]) (pc1 := 25) dL_noted_23 (by decide) rfl rfl ?_
      refine JX_iconst (v := 3) (pc1 := 26) dL_noted_25 (by decide) rfl ?_
      exact JX_iretW hr hlk ⟨by rw [e]; rfl, cSt_fr hw hBu hsv gFr.rf (by rw [zs_Noted]; exact hR), fun z => absurd (e.symm.trans z) (by decide)⟩ hI (Nat.le_of_ble_eq_true rfl) (Nat.le_of_ble_eq_true rfl) dL_noted_26
theorem lW_entry (hlz : l.stackTraces = false) (hS : cSt a0 S sv β len T E kd ad rh μ) (hZ : zJ n S) (hn : n ≤ 600) : wMet l yL_entry cL_entry 6 [(0, 12, 15, 26), (0, 12, 19, 13)] ({ frames := 14, cells := 1, slots := 6, locals := 1000 } : Room) D E kd tc ad rh sa cJ cD x1 x2 v8 d8 [.ref a0, .int a1, .int a2, .int a3, .ref x1] μ (lPo1 a0 (zaEnt S a1.toInt a2.toInt a3.toInt).1 (zaEnt S a1.toInt a2.toInt a3.toInt).2.1 (zaEnt S a1.toInt a2.toInt a3.toInt).2.2 sv β len T) := by
  obtain ⟨nc, cp, N0, ada, adb, ml, arr, μc, rfl, rfl, rfl, rfl, rfl, rfl, hw, hR, hBu, hsv⟩ := hS
  have hnc := hsv_nc hsv
  have hI := hw.1
  have hIb := gI_mxb hI
  have hY : RY (zB n) μc 0 S := ⟨hR, hZ.1, by have := zB_lt hn; omega⟩
  have hBn := zB_lt hn
  obtain ⟨q, hq, hp⟩ := mX6_entry_ok (nc := nc) (a1 := a1) (a2 := a2) (a3 := a3) hY hnc.1
  refine wMet_of hI ⟨by decide +kernel, Nat.le_of_ble_eq_true rfl⟩ (fun p e s m args below meth c sz hr hlk htab => ?_)
  show JX cJ cD x1 x2 v8 d8 p l e ({ frames := 14, cells := 1, slots := 6, locals := 1000 } : Room) s m args below meth c cL_entry 6 RL D (mxE sE (gE_C nc)) (mxK (sKd cp N0) gkd_C) tc (mxA ada adb) (mxR sRh (grh_C nc)) sa (wA (mxE sE (gE_C nc)) (mxA ada adb) x1 x2 sz) s.heap 0 0 (MQ below (wQ D tc cJ cD x1 x2 (mxE sE (gE_C nc)) (mxA ada adb) sz (lPo1 (adb 0 0) (zaEnt S a1.toInt a2.toInt a3.toInt).1 (zaEnt S a1.toInt a2.toInt a3.toInt).2.1 (zaEnt S a1.toInt a2.toInt a3.toInt).2.2 sv β len T)) args s 1 6 (wA (mxE sE (gE_C nc)) (mxA ada adb) x1 x2 sz)) (mxM (sM T.length ml arr) μc) 0 [(0, .ref (adb 0 0)), (1, .int a1), (2, .int a2), (3, .int a3), (4, .ref x1)] []
  refine JX_aload (i := 4) (q := 4) (pc1 := 2) dL_entry_0 rfl rfl ?_
  refine JX_iconst (v := 0) (pc1 := 3) dL_entry_2 (by decide) rfl ?_
  refine JX_aload_n (i := 0) (q := 0) (pc1 := 4) dL_entry_3 rfl rfl rfl ?_
  refine JX_iload_n (i := 1) (q := 1) (pc1 := 5) dL_entry_4 rfl rfl rfl ?_
  refine JX_iload_n (i := 2) (q := 2) (pc1 := 6) dL_entry_5 rfl rfl rfl ?_
  refine JX_iload_n (i := 3) (q := 3) (pc1 := 7) dL_entry_6 rfl rfl rfl ?_
  match q, hq, hp with
  | .inr r, hq, hp =>
    obtain ⟨h0, hv⟩ := hp
    refine JX_mixB (o := some (.int r)) (μ1 := μc) (pc1 := 10) (st := [.int 0, .ref x1]) (st1 := [.int r, .int 0, .ref x1]) (ce := 0) (sl := 0) hI mxL_sE (J_hV (st := [.int 0, .ref x1]) (As := [.int a1, .int a2, .int a3]) (gMet.G hIb ⟨rfl, rfl⟩ (kX6_entry l D tc sa adb nc hnc hIb a1 a2 a3 μc r hq)) wcX6_entry rfl wlL_57 mxA_b.symm (mxE_b (eC0 (nc := nc))) rfl rfl rfl ⟨Nat.le_of_ble_eq_true rfl, Nat.le_of_ble_eq_true rfl⟩ ⟨Nat.le_of_ble_eq_true rfl, Nat.le_of_ble_eq_true rfl⟩ (Nat.le_of_ble_eq_true rfl) dL_entry_7) rfl rfl rfl rfl ?_
    refine JX_i2l (v := r.toInt64) (pc1 := 11) dL_entry_10 rfl rfl ?_
    refine JX_last (pc1 := 12) dL_entry_11 rfl ?_
    refine JX_goto (tgt := 23) dL_entry_12 (by decide) ?_
    refine JX_iconst (v := 0) (pc1 := 24) dL_entry_23 (by decide) rfl ?_
    exact JX_iretW hr hlk ⟨by rw [h0]; rfl, cSt_fr hw hBu hsv gFr.rf (by rw [zs_Ent]; exact hR), fun _ => ⟨r, rfl, hv⟩⟩ hI (Nat.le_of_ble_eq_true rfl) (Nat.le_of_ble_eq_true rfl) dL_entry_24
  | .inl (ex, μ9), hq, hp =>
    obtain ⟨hc0, hex, hm9⟩ := hp
    have hm9 : μ9 = μc := hm9
    subst hm9
    have hz : (zaEnt S a1.toInt a2.toInt a3.toInt).1 = 1 ∨ (zaEnt S a1.toInt a2.toInt a3.toInt).1 = 2 := by have := zc_Ent (S := S) (a := a1.toInt) (b := a2.toInt) (w := a3.toInt); omega
    rcases hz with e | e
    · rw [e] at hex
      have hex2 : ex = gX 2 := hex
      subst hex2
      refine JX_catchB (i0 := 2) (h1 := 15) (ce := 1) (sl := 6) (pre := []) (x := ⟨0, 12, 15, 26⟩) (suf := [⟨0, 12, 19, 13⟩]) (st := [.int 0, .ref x1]) (As := [.int a1, .int a2, .int a3]) hI mxL_sE (tX6_entry l D tc sa adb nc hnc hIb a1 a2 a3 μ9 hlz (gX 2) μ9 hq) wcX6_entry wlL_57 (eC0 (nc := nc)) rfl rfl rfl ⟨rfl, rfl, Nat.le_of_ble_eq_true rfl, Nat.le_of_ble_eq_true rfl⟩ ⟨Nat.le_of_ble_eq_true rfl, Nat.le_of_ble_eq_true rfl⟩ (Nat.le_of_ble_eq_true rfl) dL_entry_7 (by decide) (htab.trans rfl) (fun z hz => absurd hz List.not_mem_nil) rfl (by decide) clL_26 rfl rfl rfl (fun q9 => ?_)
      refine JX_astore (i := 5) (lv1 := [(5, .ref q9), (0, .ref (adb 0 0)), (1, .int a1), (2, .int a2), (3, .int a3), (4, .ref x1)]) (pc1 := 17) dL_entry_15 (by decide) rfl rfl ?_
      refine JX_iconst (v := 1) (pc1 := 18) dL_entry_17 (by decide) rfl ?_
      exact JX_iretW hr hlk ⟨by rw [e]; rfl, cSt_fr hw hBu hsv gFr.rf (by rw [zs_Ent]; exact hR), fun z => absurd (e.symm.trans z) (by decide)⟩ hI (Nat.le_of_ble_eq_true rfl) (Nat.le_of_ble_eq_true rfl) dL_entry_18
    · rw [e] at hex
      have hex2 : ex = gX 0 := hex
      subst hex2
      refine JX_catchB (i0 := 0) (h1 := 19) (ce := 1) (sl := 6) (pre := [⟨0, 12, 15, 26⟩]) (x := ⟨0, 12, 19, 13⟩) (suf := []) (st := [.int 0, .ref x1]) (As := [.int a1, .int a2, .int a3]) hI mxL_sE (tX6_entry l D tc sa adb nc hnc hIb a1 a2 a3 μ9 hlz (gX 0) μ9 hq) wcX6_entry wlL_57 (eC0 (nc := nc)) rfl rfl rfl ⟨rfl, rfl, Nat.le_of_ble_eq_true rfl, Nat.le_of_ble_eq_true rfl⟩ ⟨Nat.le_of_ble_eq_true rfl, Nat.le_of_ble_eq_true rfl⟩ (Nat.le_of_ble_eq_true rfl) dL_entry_7 (by decide) (htab.trans rfl) (List.forall_mem_cons.mpr ⟨⟨by decide, 2, by decide, by decide, clL_26⟩, (fun z hz => absurd hz List.not_mem_nil)⟩) rfl (by decide) clL_13 rfl rfl rfl (fun q9 => ?_)
      refine JX_astore (i := 5) (lv1 := [(5, .ref q9), (0, .ref (adb 0 0)), (1, .int a1), (2, .int a2), (3, .int a3), (4, .ref x1)]) (pc1 := 21) dL_entry_19 (by decide) rfl rfl ?_
      refine JX_iconst (v := 2) (pc1 := 22) dL_entry_21 (by decide) rfl ?_
      exact JX_iretW hr hlk ⟨by rw [e]; rfl, cSt_fr hw hBu hsv gFr.rf (by rw [zs_Ent]; exact hR), fun z => absurd (e.symm.trans z) (by decide)⟩ hI (Nat.le_of_ble_eq_true rfl) (Nat.le_of_ble_eq_true rfl) dL_entry_22
theorem lW_message (hlz : l.stackTraces = false) (hS : cSt a0 S sv β len T E kd ad rh μ) (hZ : zJ n S) (hn : n ≤ 600) : wMet l yL_message cL_message 5 [(0, 10, 13, 26), (0, 10, 17, 13)] ({ frames := 14, cells := 1, slots := 6, locals := 1000 } : Room) D E kd tc ad rh sa cJ cD x1 x2 v8 d8 [.ref a0, .int a1, .int a2, .ref x1] μ (lPo1 a0 (zaMsg S a1.toInt a2.toInt).1 (zaMsg S a1.toInt a2.toInt).2.1 (zaMsg S a1.toInt a2.toInt).2.2 sv β len T) := by
  obtain ⟨nc, cp, N0, ada, adb, ml, arr, μc, rfl, rfl, rfl, rfl, rfl, rfl, hw, hR, hBu, hsv⟩ := hS
  have hnc := hsv_nc hsv
  have hI := hw.1
  have hIb := gI_mxb hI
  have hY : RY (zB n) μc 0 S := ⟨hR, hZ.1, by have := zB_lt hn; omega⟩
  have hBn := zB_lt hn
  obtain ⟨q, hq, hp⟩ := mX6_message_ok (nc := nc) (a1 := a1) (a2 := a2) hY hnc.1
  refine wMet_of hI ⟨by decide +kernel, Nat.le_of_ble_eq_true rfl⟩ (fun p e s m args below meth c sz hr hlk htab => ?_)
  show JX cJ cD x1 x2 v8 d8 p l e ({ frames := 14, cells := 1, slots := 6, locals := 1000 } : Room) s m args below meth c cL_message 5 RL D (mxE sE (gE_C nc)) (mxK (sKd cp N0) gkd_C) tc (mxA ada adb) (mxR sRh (grh_C nc)) sa (wA (mxE sE (gE_C nc)) (mxA ada adb) x1 x2 sz) s.heap 0 0 (MQ below (wQ D tc cJ cD x1 x2 (mxE sE (gE_C nc)) (mxA ada adb) sz (lPo1 (adb 0 0) (zaMsg S a1.toInt a2.toInt).1 (zaMsg S a1.toInt a2.toInt).2.1 (zaMsg S a1.toInt a2.toInt).2.2 sv β len T)) args s 1 6 (wA (mxE sE (gE_C nc)) (mxA ada adb) x1 x2 sz)) (mxM (sM T.length ml arr) μc) 0 [(0, .ref (adb 0 0)), (1, .int a1), (2, .int a2), (3, .ref x1)] []
  refine JX_aload_n (i := 3) (q := 3) (pc1 := 1) dL_message_0 rfl rfl rfl ?_
  refine JX_iconst (v := 0) (pc1 := 2) dL_message_1 (by decide) rfl ?_
  refine JX_aload_n (i := 0) (q := 0) (pc1 := 3) dL_message_2 rfl rfl rfl ?_
  refine JX_iload_n (i := 1) (q := 1) (pc1 := 4) dL_message_3 rfl rfl rfl ?_
  refine JX_iload_n (i := 2) (q := 2) (pc1 := 5) dL_message_4 rfl rfl rfl ?_
  match q, hq, hp with
  | .inr r, hq, hp =>
    obtain ⟨h0, hv⟩ := hp
    refine JX_mixB (o := some (.int r)) (μ1 := μc) (pc1 := 8) (st := [.int 0, .ref x1]) (st1 := [.int r, .int 0, .ref x1]) (ce := 0) (sl := 0) hI mxL_sE (J_hV (st := [.int 0, .ref x1]) (As := [.int a1, .int a2]) (gMet.G hIb ⟨rfl, rfl⟩ (kX6_message l D tc sa adb nc hnc hIb a1 a2 μc r hq)) wcX6_message rfl wlL_60 mxA_b.symm (mxE_b (eC0 (nc := nc))) rfl rfl rfl ⟨Nat.le_of_ble_eq_true rfl, Nat.le_of_ble_eq_true rfl⟩ ⟨Nat.le_of_ble_eq_true rfl, Nat.le_of_ble_eq_true rfl⟩ (Nat.le_of_ble_eq_true rfl) dL_message_5) rfl rfl rfl rfl ?_
    refine JX_i2l (v := r.toInt64) (pc1 := 9) dL_message_8 rfl rfl ?_
    refine JX_last (pc1 := 10) dL_message_9 rfl ?_
    refine JX_goto (tgt := 21) dL_message_10 (by decide) ?_
    refine JX_iconst (v := 0) (pc1 := 22) dL_message_21 (by decide) rfl ?_
    exact JX_iretW hr hlk ⟨by rw [h0]; rfl, cSt_fr hw hBu hsv gFr.rf (by rw [zs_Msg]; exact hR), fun _ => ⟨r, rfl, hv⟩⟩ hI (Nat.le_of_ble_eq_true rfl) (Nat.le_of_ble_eq_true rfl) dL_message_22
  | .inl (ex, μ9), hq, hp =>
    obtain ⟨hc0, hex, hm9⟩ := hp
    have hm9 : μ9 = μc := hm9
    subst hm9
    have hz : (zaMsg S a1.toInt a2.toInt).1 = 1 ∨ (zaMsg S a1.toInt a2.toInt).1 = 2 := by have := zc_Msg (S := S) (a := a1.toInt) (w := a2.toInt); omega
    rcases hz with e | e
    · rw [e] at hex
      have hex2 : ex = gX 2 := hex
      subst hex2
      refine JX_catchB (i0 := 2) (h1 := 13) (ce := 1) (sl := 6) (pre := []) (x := ⟨0, 10, 13, 26⟩) (suf := [⟨0, 10, 17, 13⟩]) (st := [.int 0, .ref x1]) (As := [.int a1, .int a2]) hI mxL_sE (tX6_message l D tc sa adb nc hnc hIb a1 a2 μ9 hlz (gX 2) μ9 hq) wcX6_message wlL_60 (eC0 (nc := nc)) rfl rfl rfl ⟨rfl, rfl, Nat.le_of_ble_eq_true rfl, Nat.le_of_ble_eq_true rfl⟩ ⟨Nat.le_of_ble_eq_true rfl, Nat.le_of_ble_eq_true rfl⟩ (Nat.le_of_ble_eq_true rfl) dL_message_5 (by decide) (htab.trans rfl) (fun z hz => absurd hz List.not_mem_nil) rfl (by decide) clL_26 rfl rfl rfl (fun q9 => ?_)
      refine JX_astore (i := 4) (lv1 := [(4, .ref q9), (0, .ref (adb 0 0)), (1, .int a1), (2, .int a2), (3, .ref x1)]) (pc1 := 15) dL_message_13 (by decide) rfl rfl ?_
      refine JX_iconst (v := 1) (pc1 := 16) dL_message_15 (by decide) rfl ?_
      exact JX_iretW hr hlk ⟨by rw [e]; rfl, cSt_fr hw hBu hsv gFr.rf (by rw [zs_Msg]; exact hR), fun z => absurd (e.symm.trans z) (by decide)⟩ hI (Nat.le_of_ble_eq_true rfl) (Nat.le_of_ble_eq_true rfl) dL_message_16
    · rw [e] at hex
      have hex2 : ex = gX 0 := hex
      subst hex2
      refine JX_catchB (i0 := 0) (h1 := 17) (ce := 1) (sl := 6) (pre := [⟨0, 10, 13, 26⟩]) (x := ⟨0, 10, 17, 13⟩) (suf := []) (st := [.int 0, .ref x1]) (As := [.int a1, .int a2]) hI mxL_sE (tX6_message l D tc sa adb nc hnc hIb a1 a2 μ9 hlz (gX 0) μ9 hq) wcX6_message wlL_60 (eC0 (nc := nc)) rfl rfl rfl ⟨rfl, rfl, Nat.le_of_ble_eq_true rfl, Nat.le_of_ble_eq_true rfl⟩ ⟨Nat.le_of_ble_eq_true rfl, Nat.le_of_ble_eq_true rfl⟩ (Nat.le_of_ble_eq_true rfl) dL_message_5 (by decide) (htab.trans rfl) (List.forall_mem_cons.mpr ⟨⟨by decide, 2, by decide, by decide, clL_26⟩, (fun z hz => absurd hz List.not_mem_nil)⟩) rfl (by decide) clL_13 rfl rfl rfl (fun q9 => ?_)
      refine JX_astore (i := 4) (lv1 := [(4, .ref q9), (0, .ref (adb 0 0)), (1, .int a1), (2, .int a2), (3, .ref x1)]) (pc1 := 19) dL_message_17 (by decide) rfl rfl ?_
      refine JX_iconst (v := 2) (pc1 := 20) dL_message_19 (by decide) rfl ?_
      exact JX_iretW hr hlk ⟨by rw [e]; rfl, cSt_fr hw hBu hsv gFr.rf (by rw [zs_Msg]; exact hR), fun z => absurd (e.symm.trans z) (by decide)⟩ hI (Nat.le_of_ble_eq_true rfl) (Nat.le_of_ble_eq_true rfl) dL_message_20
theorem lW_lose (hlz : l.stackTraces = false) (hS : cSt a0 S sv β len T E kd ad rh μ) (hZ : zJ n S) (hn : n ≤ 600) : wMet l yL_lose cL_lose 4 [(0, 9, 12, 26)] ({ frames := 14, cells := 1, slots := 6, locals := 1000 } : Room) D E kd tc ad rh sa cJ cD x1 x2 v8 d8 [.ref a0, .int a1, .ref x1] μ (lPo1 a0 (zaLose S a1.toInt).1 (zaLose S a1.toInt).2.1 (zaLose S a1.toInt).2.2 sv β len T) := by
  obtain ⟨nc, cp, N0, ada, adb, ml, arr, μc, rfl, rfl, rfl, rfl, rfl, rfl, hw, hR, hBu, hsv⟩ := hS
  have hnc := hsv_nc hsv
  have hI := hw.1
  have hIb := gI_mxb hI
  have hY : RY (zB n) μc 0 S := ⟨hR, hZ.1, by have := zB_lt hn; omega⟩
  have hBn := zB_lt hn
  obtain ⟨q, hq, hp⟩ := mX6_lose_ok (nc := nc) (a1 := a1) hR hnc
  refine wMet_of hI ⟨by decide +kernel, Nat.le_of_ble_eq_true rfl⟩ (fun p e s m args below meth c sz hr hlk htab => ?_)
  show JX cJ cD x1 x2 v8 d8 p l e ({ frames := 14, cells := 1, slots := 6, locals := 1000 } : Room) s m args below meth c cL_lose 4 RL D (mxE sE (gE_C nc)) (mxK (sKd cp N0) gkd_C) tc (mxA ada adb) (mxR sRh (grh_C nc)) sa (wA (mxE sE (gE_C nc)) (mxA ada adb) x1 x2 sz) s.heap 0 0 (MQ below (wQ D tc cJ cD x1 x2 (mxE sE (gE_C nc)) (mxA ada adb) sz (lPo1 (adb 0 0) (zaLose S a1.toInt).1 (zaLose S a1.toInt).2.1 (zaLose S a1.toInt).2.2 sv β len T)) args s 1 6 (wA (mxE sE (gE_C nc)) (mxA ada adb) x1 x2 sz)) (mxM (sM T.length ml arr) μc) 0 [(0, .ref (adb 0 0)), (1, .int a1), (2, .ref x1)] []
  refine JX_aload_n (i := 2) (q := 2) (pc1 := 1) dL_lose_0 rfl rfl rfl ?_
  refine JX_iconst (v := 0) (pc1 := 2) dL_lose_1 (by decide) rfl ?_
  refine JX_aload_n (i := 0) (q := 0) (pc1 := 3) dL_lose_2 rfl rfl rfl ?_
  refine JX_iload_n (i := 1) (q := 1) (pc1 := 4) dL_lose_3 rfl rfl rfl ?_
  match q, hq, hp with
  | .inr (r, μ9), hq, hp =>
    obtain ⟨h0, hv, hF, hR9⟩ := hp
    refine JX_mixB (o := some (.int r)) (μ1 := μ9) (pc1 := 7) (st := [.int 0, .ref x1]) (st1 := [.int r, .int 0, .ref x1]) (ce := 0) (sl := 0) hI mxL_sE (J_hV (st := [.int 0, .ref x1]) (As := [.int a1]) (gMet.G hIb ⟨rfl, rfl⟩ (kX6_lose l D tc sa adb nc hnc hIb a1 μc r μ9 hq)) wcX6_lose rfl wlL_63 mxA_b.symm (mxE_b (eC0 (nc := nc))) rfl rfl rfl ⟨Nat.le_of_ble_eq_true rfl, Nat.le_of_ble_eq_true rfl⟩ ⟨Nat.le_of_ble_eq_true rfl, Nat.le_of_ble_eq_true rfl⟩ (Nat.le_of_ble_eq_true rfl) dL_lose_4) rfl rfl rfl rfl ?_
    refine JX_i2l (v := r.toInt64) (pc1 := 8) dL_lose_7 rfl rfl ?_
    refine JX_last (pc1 := 9) dL_lose_8 rfl ?_
    refine JX_goto (tgt := 15) dL_lose_9 (by decide) ?_
    refine JX_iconst (v := 0) (pc1 := 16) dL_lose_15 (by decide) rfl ?_
    exact JX_iretW hr hlk ⟨by rw [h0]; rfl, cSt_fr hw hBu hsv hF hR9, fun _ => ⟨r, rfl, hv⟩⟩ hI (Nat.le_of_ble_eq_true rfl) (Nat.le_of_ble_eq_true rfl) dL_lose_16
  | .inl (ex, μ9), hq, hp =>
    obtain ⟨hc0, hex, hF, hR9⟩ := hp
    have hz : (zaLose S a1.toInt).1 = 1 := by have := zc_Lose (S := S) (w := a1.toInt); omega
    have e := hz
    rw [e] at hex
    have hex2 : ex = gX 2 := hex
    subst hex2
    refine JX_catchB (i0 := 2) (h1 := 12) (ce := 1) (sl := 6) (pre := []) (x := ⟨0, 9, 12, 26⟩) (suf := []) (st := [.int 0, .ref x1]) (As := [.int a1]) hI mxL_sE (tX6_lose l D tc sa adb nc hnc hIb a1 μc hlz (gX 2) μ9 hq) wcX6_lose wlL_63 (eC0 (nc := nc)) rfl rfl rfl ⟨rfl, rfl, Nat.le_of_ble_eq_true rfl, Nat.le_of_ble_eq_true rfl⟩ ⟨Nat.le_of_ble_eq_true rfl, Nat.le_of_ble_eq_true rfl⟩ (Nat.le_of_ble_eq_true rfl) dL_lose_4 (by decide) (htab.trans rfl) (fun z hz => absurd hz List.not_mem_nil) rfl (by decide) clL_26 rfl rfl rfl (fun q9 => ?_)
    refine JX_astore_n (i := 3) (lv1 := [(3, .ref q9), (0, .ref (adb 0 0)), (1, .int a1), (2, .ref x1)]) (pc1 := 13) dL_lose_12 rfl (by decide) rfl rfl ?_
    refine JX_iconst (v := 1) (pc1 := 14) dL_lose_13 (by decide) rfl ?_
    exact JX_iretW hr hlk ⟨by rw [e]; rfl, cSt_fr hw hBu hsv hF hR9, fun z => absurd (e.symm.trans z) (by decide)⟩ hI (Nat.le_of_ble_eq_true rfl) (Nat.le_of_ble_eq_true rfl) dL_lose_14
theorem lW_leader (hlz : l.stackTraces = false) (hS : cSt a0 S sv β len T E kd ad rh μ) (hZ : zJ n S) (hn : n ≤ 600) : wMet l yL_leader cL_leader 3 [(0, 8, 11, 70)] ({ frames := 14, cells := 1, slots := 6, locals := 1000 } : Room) D E kd tc ad rh sa cJ cD x1 x2 v8 d8 [.ref a0, .ref x1] μ (lPo1 a0 (zaLeader S).1 (zaLeader S).2.1 (zaLeader S).2.2 sv β len T) := by
  obtain ⟨nc, cp, N0, ada, adb, ml, arr, μc, rfl, rfl, rfl, rfl, rfl, rfl, hw, hR, hBu, hsv⟩ := hS
  have hnc := hsv_nc hsv
  have hI := hw.1
  have hIb := gI_mxb hI
  have hY : RY (zB n) μc 0 S := ⟨hR, hZ.1, by have := zB_lt hn; omega⟩
  have hBn := zB_lt hn
  obtain ⟨q, hq, hp⟩ := mX6_leader_ok (nc := nc) hR
  refine wMet_of hI ⟨by decide +kernel, Nat.le_of_ble_eq_true rfl⟩ (fun p e s m args below meth c sz hr hlk htab => ?_)
  show JX cJ cD x1 x2 v8 d8 p l e ({ frames := 14, cells := 1, slots := 6, locals := 1000 } : Room) s m args below meth c cL_leader 3 RL D (mxE sE (gE_C nc)) (mxK (sKd cp N0) gkd_C) tc (mxA ada adb) (mxR sRh (grh_C nc)) sa (wA (mxE sE (gE_C nc)) (mxA ada adb) x1 x2 sz) s.heap 0 0 (MQ below (wQ D tc cJ cD x1 x2 (mxE sE (gE_C nc)) (mxA ada adb) sz (lPo1 (adb 0 0) (zaLeader S).1 (zaLeader S).2.1 (zaLeader S).2.2 sv β len T)) args s 1 6 (wA (mxE sE (gE_C nc)) (mxA ada adb) x1 x2 sz)) (mxM (sM T.length ml arr) μc) 0 [(0, .ref (adb 0 0)), (1, .ref x1)] []
  refine JX_aload_n (i := 1) (q := 1) (pc1 := 1) dL_leader_0 rfl rfl rfl ?_
  refine JX_iconst (v := 0) (pc1 := 2) dL_leader_1 (by decide) rfl ?_
  refine JX_aload_n (i := 0) (q := 0) (pc1 := 3) dL_leader_2 rfl rfl rfl ?_
  match q, hq, hp with
  | .inr r, hq, hp =>
    obtain ⟨h0, hv⟩ := hp
    refine JX_mixB (o := some (.int r)) (μ1 := μc) (pc1 := 6) (st := [.int 0, .ref x1]) (st1 := [.int r, .int 0, .ref x1]) (ce := 0) (sl := 0) hI mxL_sE (J_hV (st := [.int 0, .ref x1]) (As := []) (gMet.G hIb ⟨rfl, rfl⟩ (kX6_leader l D tc sa adb nc hnc hIb  μc r hq)) wcX6_leader rfl wlL_66 mxA_b.symm (mxE_b (eC0 (nc := nc))) rfl rfl rfl ⟨Nat.le_of_ble_eq_true rfl, Nat.le_of_ble_eq_true rfl⟩ ⟨Nat.le_of_ble_eq_true rfl, Nat.le_of_ble_eq_true rfl⟩ (Nat.le_of_ble_eq_true rfl) dL_leader_3) rfl rfl rfl rfl ?_
    refine JX_i2l (v := r.toInt64) (pc1 := 7) dL_leader_6 rfl rfl ?_
    refine JX_last (pc1 := 8) dL_leader_7 rfl ?_
    refine JX_goto (tgt := 14) dL_leader_8 (by decide) ?_
    refine JX_iconst (v := 0) (pc1 := 15) dL_leader_14 (by decide) rfl ?_
    exact JX_iretW hr hlk ⟨by rw [h0]; rfl, cSt_fr hw hBu hsv gFr.rf (by rw [zs_Leader]; exact hR), fun _ => ⟨r, rfl, hv⟩⟩ hI (Nat.le_of_ble_eq_true rfl) (Nat.le_of_ble_eq_true rfl) dL_leader_15
  | .inl (ex, μ9), hq, hp =>
    obtain ⟨hc0, hex, hm9⟩ := hp
    have hm9 : μ9 = μc := hm9
    subst hm9
    have hz : (zaLeader S).1 = 1 := by have := zc_Leader (S := S); omega
    have e := hz
    rw [e] at hex
    have hex2 : ex = gX 4 := hex
    subst hex2
    refine JX_catchB (i0 := 4) (h1 := 11) (ce := 1) (sl := 6) (pre := []) (x := ⟨0, 8, 11, 70⟩) (suf := []) (st := [.int 0, .ref x1]) (As := []) hI mxL_sE (tX6_leader l D tc sa adb nc hnc hIb  μ9 hlz (gX 4) μ9 hq) wcX6_leader wlL_66 (eC0 (nc := nc)) rfl rfl rfl ⟨rfl, rfl, Nat.le_of_ble_eq_true rfl, Nat.le_of_ble_eq_true rfl⟩ ⟨Nat.le_of_ble_eq_true rfl, Nat.le_of_ble_eq_true rfl⟩ (Nat.le_of_ble_eq_true rfl) dL_leader_3 (by decide) (htab.trans rfl) (fun z hz => absurd hz List.not_mem_nil) rfl (by decide) clL_70 rfl rfl rfl (fun q9 => ?_)
    refine JX_astore_n (i := 2) (lv1 := [(2, .ref q9), (0, .ref (adb 0 0)), (1, .ref x1)]) (pc1 := 12) dL_leader_11 rfl (by decide) rfl rfl ?_
    refine JX_iconst (v := 1) (pc1 := 13) dL_leader_12 (by decide) rfl ?_
    exact JX_iretW hr hlk ⟨by rw [e]; rfl, cSt_fr hw hBu hsv gFr.rf (by rw [zs_Leader]; exact hR), fun z => absurd (e.symm.trans z) (by decide)⟩ hI (Nat.le_of_ble_eq_true rfl) (Nat.le_of_ble_eq_true rfl) dL_leader_13
theorem lW_winner (hlz : l.stackTraces = false) (hS : cSt a0 S sv β len T E kd ad rh μ) (hZ : zJ n S) (hn : n ≤ 600) : wMet l yL_winner cL_winner 4 [(0, 9, 12, 70)] ({ frames := 14, cells := 1, slots := 6, locals := 1000 } : Room) D E kd tc ad rh sa cJ cD x1 x2 v8 d8 [.ref a0, .int a1, .ref x1] μ (lPo1 a0 (zaWin S a1.toInt).1 (zaWin S a1.toInt).2.1 (zaWin S a1.toInt).2.2 sv β len T) := by
  obtain ⟨nc, cp, N0, ada, adb, ml, arr, μc, rfl, rfl, rfl, rfl, rfl, rfl, hw, hR, hBu, hsv⟩ := hS
  have hnc := hsv_nc hsv
  have hI := hw.1
  have hIb := gI_mxb hI
  have hY : RY (zB n) μc 0 S := ⟨hR, hZ.1, by have := zB_lt hn; omega⟩
  have hBn := zB_lt hn
  obtain ⟨q, hq, hp⟩ := mX6_winner_ok (nc := nc) (a1 := a1) hR hZ.2.1
  refine wMet_of hI ⟨by decide +kernel, Nat.le_of_ble_eq_true rfl⟩ (fun p e s m args below meth c sz hr hlk htab => ?_)
  show JX cJ cD x1 x2 v8 d8 p l e ({ frames := 14, cells := 1, slots := 6, locals := 1000 } : Room) s m args below meth c cL_winner 4 RL D (mxE sE (gE_C nc)) (mxK (sKd cp N0) gkd_C) tc (mxA ada adb) (mxR sRh (grh_C nc)) sa (wA (mxE sE (gE_C nc)) (mxA ada adb) x1 x2 sz) s.heap 0 0 (MQ below (wQ D tc cJ cD x1 x2 (mxE sE (gE_C nc)) (mxA ada adb) sz (lPo1 (adb 0 0) (zaWin S a1.toInt).1 (zaWin S a1.toInt).2.1 (zaWin S a1.toInt).2.2 sv β len T)) args s 1 6 (wA (mxE sE (gE_C nc)) (mxA ada adb) x1 x2 sz)) (mxM (sM T.length ml arr) μc) 0 [(0, .ref (adb 0 0)), (1, .int a1), (2, .ref x1)] []
  refine JX_aload_n (i := 2) (q := 2) (pc1 := 1) dL_winner_0 rfl rfl rfl ?_
  refine JX_iconst (v := 0) (pc1 := 2) dL_winner_1 (by decide) rfl ?_
  refine JX_aload_n (i := 0) (q := 0) (pc1 := 3) dL_winner_2 rfl rfl rfl ?_
  refine JX_iload_n (i := 1) (q := 1) (pc1 := 4) dL_winner_3 rfl rfl rfl ?_
  match q, hq, hp with
  | .inr r, hq, hp =>
    obtain ⟨h0, hv⟩ := hp
    refine JX_mixB (o := some (.int r)) (μ1 := μc) (pc1 := 7) (st := [.int 0, .ref x1]) (st1 := [.int r, .int 0, .ref x1]) (ce := 0) (sl := 0) hI mxL_sE (J_hV (st := [.int 0, .ref x1]) (As := [.int a1]) (gMet.G hIb ⟨rfl, rfl⟩ (kX6_winner l D tc sa adb nc hnc hIb a1 μc r hq)) wcX6_winner rfl wlL_72 mxA_b.symm (mxE_b (eC0 (nc := nc))) rfl rfl rfl ⟨Nat.le_of_ble_eq_true rfl, Nat.le_of_ble_eq_true rfl⟩ ⟨Nat.le_of_ble_eq_true rfl, Nat.le_of_ble_eq_true rfl⟩ (Nat.le_of_ble_eq_true rfl) dL_winner_4) rfl rfl rfl rfl ?_
    refine JX_i2l (v := r.toInt64) (pc1 := 8) dL_winner_7 rfl rfl ?_
    refine JX_last (pc1 := 9) dL_winner_8 rfl ?_
    refine JX_goto (tgt := 15) dL_winner_9 (by decide) ?_
    refine JX_iconst (v := 0) (pc1 := 16) dL_winner_15 (by decide) rfl ?_
    exact JX_iretW hr hlk ⟨by rw [h0]; rfl, cSt_fr hw hBu hsv gFr.rf (by rw [zs_Win]; exact hR), fun _ => ⟨r, rfl, hv⟩⟩ hI (Nat.le_of_ble_eq_true rfl) (Nat.le_of_ble_eq_true rfl) dL_winner_16
  | .inl (ex, μ9), hq, hp =>
    obtain ⟨hc0, hex, hm9⟩ := hp
    have hm9 : μ9 = μc := hm9
    subst hm9
    have hz : (zaWin S a1.toInt).1 = 1 := by have := zc_Win (S := S) (t := a1.toInt); omega
    have e := hz
    rw [e] at hex
    have hex2 : ex = gX 4 := hex
    subst hex2
    refine JX_catchB (i0 := 4) (h1 := 12) (ce := 1) (sl := 6) (pre := []) (x := ⟨0, 9, 12, 70⟩) (suf := []) (st := [.int 0, .ref x1]) (As := [.int a1]) hI mxL_sE (tX6_winner l D tc sa adb nc hnc hIb a1 μ9 hlz (gX 4) μ9 hq) wcX6_winner wlL_72 (eC0 (nc := nc)) rfl rfl rfl ⟨rfl, rfl, Nat.le_of_ble_eq_true rfl, Nat.le_of_ble_eq_true rfl⟩ ⟨Nat.le_of_ble_eq_true rfl, Nat.le_of_ble_eq_true rfl⟩ (Nat.le_of_ble_eq_true rfl) dL_winner_4 (by decide) (htab.trans rfl) (fun z hz => absurd hz List.not_mem_nil) rfl (by decide) clL_70 rfl rfl rfl (fun q9 => ?_)
    refine JX_astore_n (i := 3) (lv1 := [(3, .ref q9), (0, .ref (adb 0 0)), (1, .int a1), (2, .ref x1)]) (pc1 := 13) dL_winner_12 rfl (by decide) rfl rfl ?_
    refine JX_iconst (v := 1) (pc1 := 14) dL_winner_13 (by decide) rfl ?_
    exact JX_iretW hr hlk ⟨by rw [e]; rfl, cSt_fr hw hBu hsv gFr.rf (by rw [zs_Win]; exact hR), fun z => absurd (e.symm.trans z) (by decide)⟩ hI (Nat.le_of_ble_eq_true rfl) (Nat.le_of_ble_eq_true rfl) dL_winner_14
theorem lW_alike (hlz : l.stackTraces = false) (hS : cSt a0 S sv β len T E kd ad rh μ) (hZ : zJ n S) (hn : n ≤ 600) : wMet l yL_alike cL_alike 5 [(0, 10, 13, 26)] ({ frames := 14, cells := 1, slots := 6, locals := 1000 } : Room) D E kd tc ad rh sa cJ cD x1 x2 v8 d8 [.ref a0, .int a1, .int a2, .ref x1] μ (lPo1 a0 (zaAlike S a1.toInt a2.toInt).1 (zaAlike S a1.toInt a2.toInt).2.1 (zaAlike S a1.toInt a2.toInt).2.2 sv β len T) := by
  obtain ⟨nc, cp, N0, ada, adb, ml, arr, μc, rfl, rfl, rfl, rfl, rfl, rfl, hw, hR, hBu, hsv⟩ := hS
  have hnc := hsv_nc hsv
  have hI := hw.1
  have hIb := gI_mxb hI
  have hY : RY (zB n) μc 0 S := ⟨hR, hZ.1, by have := zB_lt hn; omega⟩
  have hBn := zB_lt hn
  obtain ⟨q, hq, hp⟩ := mX6_alike_ok (nc := nc) (a1 := a1) (a2 := a2) hY hnc.1
  refine wMet_of hI ⟨by decide +kernel, Nat.le_of_ble_eq_true rfl⟩ (fun p e s m args below meth c sz hr hlk htab => ?_)
  show JX cJ cD x1 x2 v8 d8 p l e ({ frames := 14, cells := 1, slots := 6, locals := 1000 } : Room) s m args below meth c cL_alike 5 RL D (mxE sE (gE_C nc)) (mxK (sKd cp N0) gkd_C) tc (mxA ada adb) (mxR sRh (grh_C nc)) sa (wA (mxE sE (gE_C nc)) (mxA ada adb) x1 x2 sz) s.heap 0 0 (MQ below (wQ D tc cJ cD x1 x2 (mxE sE (gE_C nc)) (mxA ada adb) sz (lPo1 (adb 0 0) (zaAlike S a1.toInt a2.toInt).1 (zaAlike S a1.toInt a2.toInt).2.1 (zaAlike S a1.toInt a2.toInt).2.2 sv β len T)) args s 1 6 (wA (mxE sE (gE_C nc)) (mxA ada adb) x1 x2 sz)) (mxM (sM T.length ml arr) μc) 0 [(0, .ref (adb 0 0)), (1, .int a1), (2, .int a2), (3, .ref x1)] []
  refine JX_aload_n (i := 3) (q := 3) (pc1 := 1) dL_alike_0 rfl rfl rfl ?_
  refine JX_iconst (v := 0) (pc1 := 2) dL_alike_1 (by decide) rfl ?_
  refine JX_aload_n (i := 0) (q := 0) (pc1 := 3) dL_alike_2 rfl rfl rfl ?_
  refine JX_iload_n (i := 1) (q := 1) (pc1 := 4) dL_alike_3 rfl rfl rfl ?_
  refine JX_iload_n (i := 2) (q := 2) (pc1 := 5) dL_alike_4 rfl rfl rfl ?_
  match q, hq, hp with
  | .inr r, hq, hp =>
    obtain ⟨h0, hv⟩ := hp
    refine JX_mixB (o := some (.int r)) (μ1 := μc) (pc1 := 8) (st := [.int 0, .ref x1]) (st1 := [.int r, .int 0, .ref x1]) (ce := 0) (sl := 0) hI mxL_sE (J_hV (st := [.int 0, .ref x1]) (As := [.int a1, .int a2]) (gMet.G hIb ⟨rfl, rfl⟩ (kX6_alike l D tc sa adb nc hnc hIb a1 a2 μc r hq)) wcX6_alike rfl wlL_75 mxA_b.symm (mxE_b (eC0 (nc := nc))) rfl rfl rfl ⟨Nat.le_of_ble_eq_true rfl, Nat.le_of_ble_eq_true rfl⟩ ⟨Nat.le_of_ble_eq_true rfl, Nat.le_of_ble_eq_true rfl⟩ (Nat.le_of_ble_eq_true rfl) dL_alike_5) rfl rfl rfl rfl ?_
    refine JX_i2l (v := r.toInt64) (pc1 := 9) dL_alike_8 rfl rfl ?_
    refine JX_last (pc1 := 10) dL_alike_9 rfl ?_
    refine JX_goto (tgt := 17) dL_alike_10 (by decide) ?_
    refine JX_iconst (v := 0) (pc1 := 18) dL_alike_17 (by decide) rfl ?_
    exact JX_iretW hr hlk ⟨by rw [h0]; rfl, cSt_fr hw hBu hsv gFr.rf (by rw [zs_Alike]; exact hR), fun _ => ⟨r, rfl, hv⟩⟩ hI (Nat.le_of_ble_eq_true rfl) (Nat.le_of_ble_eq_true rfl) dL_alike_18
  | .inl (ex, μ9), hq, hp =>
    obtain ⟨hc0, hex, hm9⟩ := hp
    have hm9 : μ9 = μc := hm9
    subst hm9
    have hz : (zaAlike S a1.toInt a2.toInt).1 = 1 := by have := zc_Alike (S := S) (a := a1.toInt) (b := a2.toInt); omega
    have e := hz
    rw [e] at hex
    have hex2 : ex = gX 2 := hex
    subst hex2
    refine JX_catchB (i0 := 2) (h1 := 13) (ce := 1) (sl := 6) (pre := []) (x := ⟨0, 10, 13, 26⟩) (suf := []) (st := [.int 0, .ref x1]) (As := [.int a1, .int a2]) hI mxL_sE (tX6_alike l D tc sa adb nc hnc hIb a1 a2 μ9 hlz (gX 2) μ9 hq) wcX6_alike wlL_75 (eC0 (nc := nc)) rfl rfl rfl ⟨rfl, rfl, Nat.le_of_ble_eq_true rfl, Nat.le_of_ble_eq_true rfl⟩ ⟨Nat.le_of_ble_eq_true rfl, Nat.le_of_ble_eq_true rfl⟩ (Nat.le_of_ble_eq_true rfl) dL_alike_5 (by decide) (htab.trans rfl) (fun z hz => absurd hz List.not_mem_nil) rfl (by decide) clL_26 rfl rfl rfl (fun q9 => ?_)
    refine JX_astore (i := 4) (lv1 := [(4, .ref q9), (0, .ref (adb 0 0)), (1, .int a1), (2, .int a2), (3, .ref x1)]) (pc1 := 15) dL_alike_13 (by decide) rfl rfl ?_
    refine JX_iconst (v := 1) (pc1 := 16) dL_alike_15 (by decide) rfl ?_
    exact JX_iretW hr hlk ⟨by rw [e]; rfl, cSt_fr hw hBu hsv gFr.rf (by rw [zs_Alike]; exact hR), fun z => absurd (e.symm.trans z) (by decide)⟩ hI (Nat.le_of_ble_eq_true rfl) (Nat.le_of_ble_eq_true rfl) dL_alike_16
theorem lW_statistic (hlz : l.stackTraces = false) (hS : cSt a0 S sv β len T E kd ad rh μ) (hZ : zJ n S) (hn : n ≤ 600) : wMet l yL_statistic cL_statistic 4 [(0, 9, 12, 13)] ({ frames := 14, cells := 1, slots := 6, locals := 1000 } : Room) D E kd tc ad rh sa cJ cD x1 x2 v8 d8 [.ref a0, .int a1, .ref x1] μ (lPo1 a0 (zaStat S a1.toInt).1 (zaStat S a1.toInt).2.1 (zaStat S a1.toInt).2.2 sv β len T) := by
  obtain ⟨nc, cp, N0, ada, adb, ml, arr, μc, rfl, rfl, rfl, rfl, rfl, rfl, hw, hR, hBu, hsv⟩ := hS
  have hnc := hsv_nc hsv
  have hI := hw.1
  have hIb := gI_mxb hI
  have hY : RY (zB n) μc 0 S := ⟨hR, hZ.1, by have := zB_lt hn; omega⟩
  have hBn := zB_lt hn
  obtain ⟨q, hq, hp⟩ := mX6_statistic_ok (nc := nc) (a1 := a1) hR
  refine wMet_of hI ⟨by decide +kernel, Nat.le_of_ble_eq_true rfl⟩ (fun p e s m args below meth c sz hr hlk htab => ?_)
  show JX cJ cD x1 x2 v8 d8 p l e ({ frames := 14, cells := 1, slots := 6, locals := 1000 } : Room) s m args below meth c cL_statistic 4 RL D (mxE sE (gE_C nc)) (mxK (sKd cp N0) gkd_C) tc (mxA ada adb) (mxR sRh (grh_C nc)) sa (wA (mxE sE (gE_C nc)) (mxA ada adb) x1 x2 sz) s.heap 0 0 (MQ below (wQ D tc cJ cD x1 x2 (mxE sE (gE_C nc)) (mxA ada adb) sz (lPo1 (adb 0 0) (zaStat S a1.toInt).1 (zaStat S a1.toInt).2.1 (zaStat S a1.toInt).2.2 sv β len T)) args s 1 6 (wA (mxE sE (gE_C nc)) (mxA ada adb) x1 x2 sz)) (mxM (sM T.length ml arr) μc) 0 [(0, .ref (adb 0 0)), (1, .int a1), (2, .ref x1)] []
  refine JX_aload_n (i := 2) (q := 2) (pc1 := 1) dL_statistic_0 rfl rfl rfl ?_
  refine JX_iconst (v := 0) (pc1 := 2) dL_statistic_1 (by decide) rfl ?_
  refine JX_aload_n (i := 0) (q := 0) (pc1 := 3) dL_statistic_2 rfl rfl rfl ?_
  refine JX_iload_n (i := 1) (q := 1) (pc1 := 4) dL_statistic_3 rfl rfl rfl ?_
  match q, hq, hp with
  | .inr r, hq, hp =>
    obtain ⟨h0, hv⟩ := hp
    refine JX_mixB (o := some (.int r)) (μ1 := μc) (pc1 := 7) (st := [.int 0, .ref x1]) (st1 := [.int r, .int 0, .ref x1]) (ce := 0) (sl := 0) hI mxL_sE (J_hV (st := [.int 0, .ref x1]) (As := [.int a1]) (gMet.G hIb ⟨rfl, rfl⟩ (kX6_statistic l D tc sa adb nc hnc hIb a1 μc r hq)) wcX6_statistic rfl wlL_78 mxA_b.symm (mxE_b (eC0 (nc := nc))) rfl rfl rfl ⟨Nat.le_of_ble_eq_true rfl, Nat.le_of_ble_eq_true rfl⟩ ⟨Nat.le_of_ble_eq_true rfl, Nat.le_of_ble_eq_true rfl⟩ (Nat.le_of_ble_eq_true rfl) dL_statistic_4) rfl rfl rfl rfl ?_
    refine JX_i2l (v := r.toInt64) (pc1 := 8) dL_statistic_7 rfl rfl ?_
    refine JX_last (pc1 := 9) dL_statistic_8 rfl ?_
    refine JX_goto (tgt := 15) dL_statistic_9 (by decide) ?_
    refine JX_iconst (v := 0) (pc1 := 16) dL_statistic_15 (by decide) rfl ?_
    exact JX_iretW hr hlk ⟨by rw [h0]; rfl, cSt_fr hw hBu hsv gFr.rf (by rw [zs_Stat]; exact hR), fun _ => ⟨r, rfl, hv⟩⟩ hI (Nat.le_of_ble_eq_true rfl) (Nat.le_of_ble_eq_true rfl) dL_statistic_16
  | .inl (ex, μ9), hq, hp =>
    obtain ⟨hc0, hex, hm9⟩ := hp
    have hm9 : μ9 = μc := hm9
    subst hm9
    have hz : (zaStat S a1.toInt).1 = 1 := by have := zc_Stat (S := S) (w := a1.toInt); omega
    have e := hz
    rw [e] at hex
    have hex2 : ex = gX 0 := hex
    subst hex2
    refine JX_catchB (i0 := 0) (h1 := 12) (ce := 1) (sl := 6) (pre := []) (x := ⟨0, 9, 12, 13⟩) (suf := []) (st := [.int 0, .ref x1]) (As := [.int a1]) hI mxL_sE (tX6_statistic l D tc sa adb nc hnc hIb a1 μ9 hlz (gX 0) μ9 hq) wcX6_statistic wlL_78 (eC0 (nc := nc)) rfl rfl rfl ⟨rfl, rfl, Nat.le_of_ble_eq_true rfl, Nat.le_of_ble_eq_true rfl⟩ ⟨Nat.le_of_ble_eq_true rfl, Nat.le_of_ble_eq_true rfl⟩ (Nat.le_of_ble_eq_true rfl) dL_statistic_4 (by decide) (htab.trans rfl) (fun z hz => absurd hz List.not_mem_nil) rfl (by decide) clL_13 rfl rfl rfl (fun q9 => ?_)
    refine JX_astore_n (i := 3) (lv1 := [(3, .ref q9), (0, .ref (adb 0 0)), (1, .int a1), (2, .ref x1)]) (pc1 := 13) dL_statistic_12 rfl (by decide) rfl rfl ?_
    refine JX_iconst (v := 1) (pc1 := 14) dL_statistic_13 (by decide) rfl ?_
    exact JX_iretW hr hlk ⟨by rw [e]; rfl, cSt_fr hw hBu hsv gFr.rf (by rw [zs_Stat]; exact hR), fun z => absurd (e.symm.trans z) (by decide)⟩ hI (Nat.le_of_ble_eq_true rfl) (Nat.le_of_ble_eq_true rfl) dL_statistic_14
end JX7
