/-! the law's cases -/
theorem wlL_108 : Cond.methodLink RL 108 yL_start ∈ BIG := bigT2 (i := 230) rfl rfl
theorem wlL_113 : Cond.methodLink RL 113 yX7_start ∈ BIG := bigT7 (i := 102) rfl rfl
theorem imX7_start : Cond.instanceMethod yX7_start ∈ BIG := bigT7 (i := 103) rfl rfl
theorem seX7_start : Cond.selects yX7_start.cls yX7_start yX7_start ∈ BIG := bigT7 (i := 104) rfl rfl
theorem cdX7_start : Cond.code yX7_start cX7_start 3 (some .int) ∈ BIG := bigT7 (i := 105) rfl rfl
theorem wcX7_start : wCv yX7_start cX7_start 3 (some .int) 2 := ⟨⟨imX7_start, seX7_start, iniX7, cdX7_start⟩, by decide +kernel⟩
theorem wlL_114 : Cond.methodLink RL 114 yX7_thrown ∈ BIG := bigT7 (i := 98) rfl rfl
theorem imX7_thrown : Cond.instanceMethod yX7_thrown ∈ BIG := bigT7 (i := 99) rfl rfl
theorem seX7_thrown : Cond.selects yX7_thrown.cls yX7_thrown yX7_thrown ∈ BIG := bigT7 (i := 100) rfl rfl
theorem cdX7_thrown : Cond.code yX7_thrown cX7_thrown 1 (some .int) ∈ BIG := bigT7 (i := 101) rfl rfl
theorem wcX7_thrown : wCv yX7_thrown cX7_thrown 1 (some .int) 0 := ⟨⟨imX7_thrown, seX7_thrown, iniX7, cdX7_thrown⟩, by decide +kernel⟩
theorem wlL_117 : Cond.methodLink RL 117 yL_tick ∈ BIG := bigT3 (i := 79) rfl rfl
theorem wlL_120 : Cond.methodLink RL 120 yX7_tick ∈ BIG := bigT7 (i := 119) rfl rfl
theorem wlL_121 : Cond.methodLink RL 121 yL_setDelay ∈ BIG := bigT4 (i := 34) rfl rfl
theorem wlL_123 : Cond.methodLink RL 123 yX7_setDelay ∈ BIG := bigT8 (i := 37) rfl rfl
theorem imX7_setDelay : Cond.instanceMethod yX7_setDelay ∈ BIG := bigT8 (i := 38) rfl rfl
theorem seX7_setDelay : Cond.selects yX7_setDelay.cls yX7_setDelay yX7_setDelay ∈ BIG := bigT8 (i := 39) rfl rfl
theorem cdX7_setDelay : Cond.code yX7_setDelay cX7_setDelay 3 (some .int) ∈ BIG := bigT8 (i := 40) rfl rfl
theorem wcX7_setDelay : wCv yX7_setDelay cX7_setDelay 3 (some .int) 1 := ⟨⟨imX7_setDelay, seX7_setDelay, iniX7, cdX7_setDelay⟩, by decide +kernel⟩
theorem wlL_128 : Cond.methodLink RL 128 yL_crash ∈ BIG := bigT4 (i := 93) rfl rfl
theorem wlL_130 : Cond.methodLink RL 130 yX7_crash ∈ BIG := bigT8 (i := 48) rfl rfl
theorem wlL_131 : Cond.methodLink RL 131 yL_restart ∈ BIG := bigT4 (i := 125) rfl rfl
theorem wlL_133 : Cond.methodLink RL 133 yX7_restart ∈ BIG := bigT8 (i := 52) rfl rfl
theorem wlL_134 : Cond.methodLink RL 134 yL_submit ∈ BIG := bigT4 (i := 138) rfl rfl
theorem wlL_136 : Cond.methodLink RL 136 yX7_submit ∈ BIG := bigT8 (i := 56) rfl rfl
theorem wlL_137 : Cond.methodLink RL 137 yL_reconfigure ∈ BIG := bigT4 (i := 171) rfl rfl
theorem wlL_139 : Cond.methodLink RL 139 yX7_reconfigure ∈ BIG := bigT8 (i := 60) rfl rfl
theorem imX7_reconfigure : Cond.instanceMethod yX7_reconfigure ∈ BIG := bigT8 (i := 61) rfl rfl
theorem seX7_reconfigure : Cond.selects yX7_reconfigure.cls yX7_reconfigure yX7_reconfigure ∈ BIG := bigT8 (i := 62) rfl rfl
theorem cdX7_reconfigure : Cond.code yX7_reconfigure cX7_reconfigure 4 (some .int) ∈ BIG := bigT8 (i := 63) rfl rfl
theorem wcX7_reconfigure : wCv yX7_reconfigure cX7_reconfigure 4 (some .int) 2 := ⟨⟨imX7_reconfigure, seX7_reconfigure, iniX7, cdX7_reconfigure⟩, by decide +kernel⟩
theorem wlL_140 : Cond.methodLink RL 140 yL_pack ∈ BIG := bigT4 (i := 181) rfl rfl
theorem wlL_142 : Cond.methodLink RL 142 yX7_pack ∈ BIG := bigT8 (i := 68) rfl rfl
theorem wlL_143 : Cond.methodLink RL 143 yL_read ∈ BIG := bigT4 (i := 196) rfl rfl
theorem wlL_145 : Cond.methodLink RL 145 yX7_read ∈ BIG := bigT8 (i := 76) rfl rfl
theorem imX7_read : Cond.instanceMethod yX7_read ∈ BIG := bigT8 (i := 77) rfl rfl
theorem seX7_read : Cond.selects yX7_read.cls yX7_read yX7_read ∈ BIG := bigT8 (i := 78) rfl rfl
theorem cdX7_read : Cond.code yX7_read cX7_read 2 (some .int) ∈ BIG := bigT8 (i := 79) rfl rfl
theorem wcX7_read : wCv yX7_read cX7_read 2 (some .int) 1 := ⟨⟨imX7_read, seX7_read, iniX7, cdX7_read⟩, by decide +kernel⟩
theorem wlL_146 : Cond.methodLink RL 146 yL_node ∈ BIG := bigT4 (i := 219) rfl rfl
theorem wlL_148 : Cond.methodLink RL 148 yX7_node ∈ BIG := bigT8 (i := 92) rfl rfl
theorem imX7_node : Cond.instanceMethod yX7_node ∈ BIG := bigT8 (i := 93) rfl rfl
theorem seX7_node : Cond.selects yX7_node.cls yX7_node yX7_node ∈ BIG := bigT8 (i := 94) rfl rfl
theorem cdX7_node : Cond.code yX7_node cX7_node 3 (some .int) ∈ BIG := bigT8 (i := 95) rfl rfl
theorem wcX7_node : wCv yX7_node cX7_node 3 (some .int) 2 := ⟨⟨imX7_node, seX7_node, iniX7, cdX7_node⟩, by decide +kernel⟩
theorem wlL_149 : Cond.methodLink RL 149 yL_noted ∈ BIG := bigT4 (i := 229) rfl rfl
theorem wlL_152 : Cond.methodLink RL 152 yX7_noted ∈ BIG := bigT8 (i := 96) rfl rfl
theorem imX7_noted : Cond.instanceMethod yX7_noted ∈ BIG := bigT8 (i := 97) rfl rfl
theorem seX7_noted : Cond.selects yX7_noted.cls yX7_noted yX7_noted ∈ BIG := bigT8 (i := 98) rfl rfl
theorem cdX7_noted : Cond.code yX7_noted cX7_noted 4 (some .int) ∈ BIG := bigT8 (i := 99) rfl rfl
theorem wcX7_noted : wCv yX7_noted cX7_noted 4 (some .int) 3 := ⟨⟨imX7_noted, seX7_noted, iniX7, cdX7_noted⟩, by decide +kernel⟩
theorem wlL_153 : Cond.methodLink RL 153 yL_entry ∈ BIG := bigT4 (i := 237) rfl rfl
theorem wlL_155 : Cond.methodLink RL 155 yX7_entry ∈ BIG := bigT8 (i := 100) rfl rfl
theorem imX7_entry : Cond.instanceMethod yX7_entry ∈ BIG := bigT8 (i := 101) rfl rfl
theorem seX7_entry : Cond.selects yX7_entry.cls yX7_entry yX7_entry ∈ BIG := bigT8 (i := 102) rfl rfl
theorem cdX7_entry : Cond.code yX7_entry cX7_entry 5 (some .int) ∈ BIG := bigT8 (i := 103) rfl rfl
theorem wcX7_entry : wCv yX7_entry cX7_entry 5 (some .int) 3 := ⟨⟨imX7_entry, seX7_entry, iniX7, cdX7_entry⟩, by decide +kernel⟩
theorem wlL_160 : Cond.methodLink RL 160 yL_message ∈ BIG := bigT5 (i := 16) rfl rfl
theorem wlL_162 : Cond.methodLink RL 162 yX7_message ∈ BIG := bigT8 (i := 108) rfl rfl
theorem imX7_message : Cond.instanceMethod yX7_message ∈ BIG := bigT8 (i := 109) rfl rfl
theorem seX7_message : Cond.selects yX7_message.cls yX7_message yX7_message ∈ BIG := bigT8 (i := 110) rfl rfl
theorem cdX7_message : Cond.code yX7_message cX7_message 3 (some .int) ∈ BIG := bigT8 (i := 111) rfl rfl
theorem wcX7_message : wCv yX7_message cX7_message 3 (some .int) 2 := ⟨⟨imX7_message, seX7_message, iniX7, cdX7_message⟩, by decide +kernel⟩
theorem wlL_163 : Cond.methodLink RL 163 yL_lose ∈ BIG := bigT5 (i := 33) rfl rfl
theorem wlL_165 : Cond.methodLink RL 165 yX7_lose ∈ BIG := bigT8 (i := 112) rfl rfl
theorem imX7_lose : Cond.instanceMethod yX7_lose ∈ BIG := bigT8 (i := 113) rfl rfl
theorem seX7_lose : Cond.selects yX7_lose.cls yX7_lose yX7_lose ∈ BIG := bigT8 (i := 114) rfl rfl
theorem cdX7_lose : Cond.code yX7_lose cX7_lose 2 (some .int) ∈ BIG := bigT8 (i := 115) rfl rfl
theorem wcX7_lose : wCv yX7_lose cX7_lose 2 (some .int) 1 := ⟨⟨imX7_lose, seX7_lose, iniX7, cdX7_lose⟩, by decide +kernel⟩
theorem wlL_166 : Cond.methodLink RL 166 yL_leader ∈ BIG := bigT5 (i := 41) rfl rfl
theorem wlL_169 : Cond.methodLink RL 169 yX7_leader ∈ BIG := bigT8 (i := 116) rfl rfl
theorem imX7_leader : Cond.instanceMethod yX7_leader ∈ BIG := bigT8 (i := 117) rfl rfl
theorem seX7_leader : Cond.selects yX7_leader.cls yX7_leader yX7_leader ∈ BIG := bigT8 (i := 118) rfl rfl
theorem cdX7_leader : Cond.code yX7_leader cX7_leader 4 (some .int) ∈ BIG := bigT8 (i := 119) rfl rfl
theorem wcX7_leader : wCv yX7_leader cX7_leader 4 (some .int) 0 := ⟨⟨imX7_leader, seX7_leader, iniX7, cdX7_leader⟩, by decide +kernel⟩
theorem wlL_170 : Cond.methodLink RL 170 yL_winner ∈ BIG := bigT5 (i := 65) rfl rfl
theorem wlL_172 : Cond.methodLink RL 172 yX7_winner ∈ BIG := bigT8 (i := 120) rfl rfl
theorem imX7_winner : Cond.instanceMethod yX7_winner ∈ BIG := bigT8 (i := 121) rfl rfl
theorem seX7_winner : Cond.selects yX7_winner.cls yX7_winner yX7_winner ∈ BIG := bigT8 (i := 122) rfl rfl
theorem cdX7_winner : Cond.code yX7_winner cX7_winner 3 (some .int) ∈ BIG := bigT8 (i := 123) rfl rfl
theorem wcX7_winner : wCv yX7_winner cX7_winner 3 (some .int) 1 := ⟨⟨imX7_winner, seX7_winner, iniX7, cdX7_winner⟩, by decide +kernel⟩
theorem wlL_173 : Cond.methodLink RL 173 yL_alike ∈ BIG := bigT5 (i := 73) rfl rfl
theorem wlL_175 : Cond.methodLink RL 175 yX7_alike ∈ BIG := bigT8 (i := 124) rfl rfl
theorem imX7_alike : Cond.instanceMethod yX7_alike ∈ BIG := bigT8 (i := 125) rfl rfl
theorem seX7_alike : Cond.selects yX7_alike.cls yX7_alike yX7_alike ∈ BIG := bigT8 (i := 126) rfl rfl
theorem cdX7_alike : Cond.code yX7_alike cX7_alike 5 (some .int) ∈ BIG := bigT8 (i := 127) rfl rfl
theorem wcX7_alike : wCv yX7_alike cX7_alike 5 (some .int) 2 := ⟨⟨imX7_alike, seX7_alike, iniX7, cdX7_alike⟩, by decide +kernel⟩
theorem wlL_176 : Cond.methodLink RL 176 yL_statistic ∈ BIG := bigT5 (i := 82) rfl rfl
theorem wlL_178 : Cond.methodLink RL 178 yX7_statistic ∈ BIG := bigT8 (i := 128) rfl rfl
theorem imX7_statistic : Cond.instanceMethod yX7_statistic ∈ BIG := bigT8 (i := 129) rfl rfl
theorem seX7_statistic : Cond.selects yX7_statistic.cls yX7_statistic yX7_statistic ∈ BIG := bigT8 (i := 130) rfl rfl
theorem cdX7_statistic : Cond.code yX7_statistic cX7_statistic 2 (some .int) ∈ BIG := bigT8 (i := 131) rfl rfl
theorem wcX7_statistic : wCv yX7_statistic cX7_statistic 2 (some .int) 1 := ⟨⟨imX7_statistic, seX7_statistic, iniX7, cdX7_statistic⟩, by decide +kernel⟩
theorem wlL_187 : Cond.methodLink RL 187 yL_perform ∈ BIG := bigT5 (i := 133) rfl rfl
theorem wlL_189 : Cond.methodLink RL 189 yX7_perform ∈ BIG := bigT8 (i := 140) rfl rfl
theorem imX7_perform : Cond.instanceMethod yX7_perform ∈ BIG := bigT8 (i := 141) rfl rfl
theorem seX7_perform : Cond.selects yX7_perform.cls yX7_perform yX7_perform ∈ BIG := bigT8 (i := 142) rfl rfl
theorem cdX7_perform : Cond.code yX7_perform cX7_perform 3 (some .int) ∈ BIG := bigT8 (i := 143) rfl rfl
theorem wcX7_perform : wCv yX7_perform cX7_perform 3 (some .int) 0 := ⟨⟨imX7_perform, seX7_perform, iniX7, cdX7_perform⟩, by decide +kernel⟩
theorem wlL_183 : Cond.methodLink RL 183 yL_feed ∈ BIG := bigT5 (i := 117) rfl rfl
theorem wlL_186 : Cond.methodLink RL 186 yX7_feed ∈ BIG := bigT8 (i := 136) rfl rfl
theorem imX7_feed : Cond.instanceMethod yX7_feed ∈ BIG := bigT8 (i := 137) rfl rfl
theorem seX7_feed : Cond.selects yX7_feed.cls yX7_feed yX7_feed ∈ BIG := bigT8 (i := 138) rfl rfl
theorem cdX7_feed : Cond.code yX7_feed cX7_feed 2 (some .int) ∈ BIG := bigT8 (i := 139) rfl rfl
theorem wcX7_feed : wCv yX7_feed cX7_feed 2 (some .int) 1 := ⟨⟨imX7_feed, seX7_feed, iniX7, cdX7_feed⟩, by decide +kernel⟩
theorem wlL_124 : Cond.methodLink RL 124 yL_setLink ∈ BIG := bigT4 (i := 42) rfl rfl
theorem wlL_127 : Cond.methodLink RL 127 yX7_setLink ∈ BIG := bigT8 (i := 41) rfl rfl
theorem wlL_156 : Cond.methodLink RL 156 yX6_messages ∈ BIG := bigT2 (i := 196) rfl rfl
theorem imX6_messages : Cond.instanceMethod yX6_messages ∈ BIG := bigT2 (i := 197) rfl rfl
theorem seX6_messages : Cond.selects yX6_messages.cls yX6_messages yX6_messages ∈ BIG := bigT2 (i := 198) rfl rfl
theorem cdX6_messages : Cond.code yX6_messages cX6_messages 1 (some .int) ∈ BIG := bigT2 (i := 199) rfl rfl
theorem wcX6_messages : wCv yX6_messages cX6_messages 1 (some .int) 0 := ⟨⟨imX6_messages, seX6_messages, iniX6, cdX6_messages⟩, by decide +kernel⟩
theorem wlL_159 : Cond.methodLink RL 159 yX7_messages ∈ BIG := bigT8 (i := 104) rfl rfl
theorem imX7_messages : Cond.instanceMethod yX7_messages ∈ BIG := bigT8 (i := 105) rfl rfl
theorem seX7_messages : Cond.selects yX7_messages.cls yX7_messages yX7_messages ∈ BIG := bigT8 (i := 106) rfl rfl
theorem cdX7_messages : Cond.code yX7_messages cX7_messages 1 (some .int) ∈ BIG := bigT8 (i := 107) rfl rfl
theorem wcX7_messages : wCv yX7_messages cX7_messages 1 (some .int) 0 := ⟨⟨imX7_messages, seX7_messages, iniX7, cdX7_messages⟩, by decide +kernel⟩
theorem wlL_196 : Cond.methodLink RL 196 yX6_save ∈ BIG := bigT2 (i := 200) rfl rfl
theorem imX6_save : Cond.instanceMethod yX6_save ∈ BIG := bigT2 (i := 201) rfl rfl
theorem seX6_save : Cond.selects yX6_save.cls yX6_save yX6_save ∈ BIG := bigT2 (i := 202) rfl rfl
theorem cdX6_save : Cond.code yX6_save cX6_save 1 (some .int) ∈ BIG := bigT2 (i := 203) rfl rfl
theorem wcX6_save : wCv yX6_save cX6_save 1 (some .int) 0 := ⟨⟨imX6_save, seX6_save, iniX6, cdX6_save⟩, by decide +kernel⟩
theorem wlL_199 : Cond.methodLink RL 199 yX7_save ∈ BIG := bigT8 (i := 207) rfl rfl
theorem imX7_save : Cond.instanceMethod yX7_save ∈ BIG := bigT8 (i := 208) rfl rfl
theorem seX7_save : Cond.selects yX7_save.cls yX7_save yX7_save ∈ BIG := bigT8 (i := 209) rfl rfl
theorem cdX7_save : Cond.code yX7_save cX7_save 1 (some .int) ∈ BIG := bigT8 (i := 210) rfl rfl
theorem wcX7_save : wCv yX7_save cX7_save 1 (some .int) 0 := ⟨⟨imX7_save, seX7_save, iniX7, cdX7_save⟩, by decide +kernel⟩
theorem wlL_179 : Cond.methodLink RL 179 yL_share ∈ BIG := bigT5 (i := 89) rfl rfl
theorem wlL_182 : Cond.methodLink RL 182 yX7_share ∈ BIG := bigT8 (i := 132) rfl rfl
theorem imX7_share : Cond.instanceMethod yX7_share ∈ BIG := bigT8 (i := 133) rfl rfl
theorem seX7_share : Cond.selects yX7_share.cls yX7_share yX7_share ∈ BIG := bigT8 (i := 134) rfl rfl
theorem cdX7_share : Cond.code yX7_share cX7_share 7 (some .double) ∈ BIG := bigT8 (i := 135) rfl rfl
theorem wcX7_share : wCv yX7_share cX7_share 7 (some .double) 1 := ⟨⟨imX7_share, seX7_share, iniX7, cdX7_share⟩, by decide +kernel⟩
theorem wlL_190 : Cond.methodLink RL 190 yL_write ∈ BIG := bigT5 (i := 231) rfl rfl
theorem wlL_192 : Cond.methodLink RL 192 yX7_write ∈ BIG := bigT8 (i := 176) rfl rfl
theorem imX7_write : Cond.instanceMethod yX7_write ∈ BIG := bigT8 (i := 177) rfl rfl
theorem seX7_write : Cond.selects yX7_write.cls yX7_write yX7_write ∈ BIG := bigT8 (i := 178) rfl rfl
theorem cdX7_write : Cond.code yX7_write cX7_write 2 (some .int) ∈ BIG := bigT8 (i := 179) rfl rfl
theorem wcX7_write : wCv yX7_write cX7_write 2 (some .int) 1 := ⟨⟨imX7_write, seX7_write, iniX7, cdX7_write⟩, by decide +kernel⟩
theorem wlL_193 : Cond.methodLink RL 193 yL_text ∈ BIG := bigT7 (i := 6) rfl rfl
theorem wlL_195 : Cond.methodLink RL 195 yX7_text ∈ BIG := bigT8 (i := 203) rfl rfl
theorem imX7_text : Cond.instanceMethod yX7_text ∈ BIG := bigT8 (i := 204) rfl rfl
theorem seX7_text : Cond.selects yX7_text.cls yX7_text yX7_text ∈ BIG := bigT8 (i := 205) rfl rfl
theorem cdX7_text : Cond.code yX7_text cX7_text 2 (some .char) ∈ BIG := bigT8 (i := 206) rfl rfl
theorem wcX7_text : wCv yX7_text cX7_text 2 (some .char) 1 := ⟨⟨imX7_text, seX7_text, iniX7, cdX7_text⟩, by decide +kernel⟩
theorem wlL_200 : Cond.methodLink RL 200 yL_restore ∈ BIG := bigT7 (i := 24) rfl rfl
theorem wlL_202 : Cond.methodLink RL 202 yX7_restore ∈ BIG := bigT8 (i := 214) rfl rfl
theorem imX7_restore : Cond.instanceMethod yX7_restore ∈ BIG := bigT8 (i := 215) rfl rfl
theorem seX7_restore : Cond.selects yX7_restore.cls yX7_restore yX7_restore ∈ BIG := bigT8 (i := 216) rfl rfl
theorem cdX7_restore : Cond.code yX7_restore cX7_restore 1 (some .int) ∈ BIG := bigT8 (i := 217) rfl rfl
theorem wcX7_restore : wCv yX7_restore cX7_restore 1 (some .int) 0 := ⟨⟨imX7_restore, seX7_restore, iniX7, cdX7_restore⟩, by decide +kernel⟩
theorem lg_self (x : Int64) : lg_cmp x x = 0 := by
  unfold lg_cmp
  simp
theorem th_eq {x : Int32} {c : Nat} (h : x.toInt = (c : Int)) (hc : c ≤ 4) : x = nI c := Int32.toInt_inj.mp (h.trans (nI_toInt (by omega)).symm)
theorem th_0 {c : Nat} (h : nI c = 0) (hc : c ≤ 4) : c = 0 := (nI_eq (by omega) (by omega)).mp (show nI c = nI 0 from h)
theorem zc_Feed {β : Nat → Int32} {len : Nat} {x : Int32} : (zFeed β len x).1 ≤ 4 := by
  unfold zFeed
  split <;> exact Nat.le_of_ble_eq_true rfl
theorem i2c_ch (x : Int32) : vp_nar .char (i2c x) = i2c x := by
  have h : i2c x = nI (x.toUInt32 % 65536).toNat := (congrArg UInt32.toInt32 (UInt32.ofNat_toNat (x := x.toUInt32 % 65536))).symm
  have hq : (x.toUInt32 % 65536).toNat < 65536 := by
    rw [UInt32.toNat_mod]
    exact Nat.mod_lt _ (by decide)
  rw [h]
  exact Value.int.inj (pk_charN hq).1
theorem zLink_01 {S : sqSt} {a b : Int} {x : Bool} {r : Int32} (h : r.toInt = (zaLink S a b x).2.1) : r = 0 ∨ r = 1 := by
  by_cases hr : r = 0
  · exact Or.inl hr
  · exact Or.inr (Int32.toInt_inj.mp (h.trans (zLink_1 h hr).symm))
theorem T_lt {a0 : Nat} {S : sqSt} {sv : Option sqSt} {β : Nat → Int32} {len : Nat} {T : List Nat} {E : List (Nat × Nat)} {kd : Nat → gKd} {ad : Nat → Nat → Nat} {rh : gRh} {μ : gM} (h : cSt a0 S sv β len T E kd ad rh μ) {k : Nat} (hk : k < T.length) : T.getD k 0 < 256 := by
  obtain ⟨nc, cp, N0, ada, adb, ml, arr, μc, rfl, rfl, rfl, rfl, rfl, rfl, hw, -⟩ := h
  exact (hw.2.2.1 k hk).1
theorem mxK_b {a b : Nat → gKd} {f : Nat} : mxK a b (f + 30) = b f := by
  show (if f + 30 < 30 then _ else b (f + 30 - 30)) = _
  rw [if_neg (by omega), Nat.add_sub_cancel]
abbrev JL (p : Program) (l : Launch) (e : Env) (s : State) (m : MethodId) (below : List Frame) (meth : Method) (c : Code) (D : va_G) (tc : Nat → ClassId) (sa : Nat → Nat) (cJ cD : ClassId) (x1 x2 : Nat) (adr : Nat → Nat → Nat) (b : Nat) (Q : State → Prop) (E : List (Nat × Nat)) (kd : Nat → gKd) (ad : Nat → Nat → Nat) (rh : gRh) (μr μc : gM) (v8 : Int64) (d8 : UInt64) (ce sl pc : Nat) (lv : List (Nat × Value)) (st : List Value) : Prop := JX cJ cD x1 x2 v8 d8 p l e room_1 s m #[Value.ref b] below meth c cL_law 9 RL D (mxE gE_R E) (mxK gkd_R kd) tc (mxA adr ad) (mxR rhQ rh) sa (fun q => s.heap.size ≤ q) s.heap ce sl Q (mxM μr μc) pc lv st
/-- behind n calls the law goes on -/
def lwN (p : Program) (l : Launch) (e : Env) (s : State) (m : MethodId) (below : List Frame) (meth : Method) (c : Code) (D : va_G) (tc : Nat → ClassId) (sa : Nat → Nat) (cJ cD : ClassId) (x1 x2 : Nat) (adr : Nat → Nat → Nat) (b : Nat) (Q : State → Prop) (a0 n i : Nat) : Prop :=
  ∀ (S : sqSt) (sv : Option sqSt) (β : Nat → Int32) (len : Nat) (T : List Nat) (E : List (Nat × Nat)) (kd : Nat → gKd) (ad : Nat → Nat → Nat) (rh : gRh) (μr μc : gM) (v8 : Int64) (d8 : UInt64), cSt a0 S sv β len T E kd ad rh μc → rSt n S sv β len T μr → lJ n S sv → gI (mxE gE_R E) (mxA adr ad) → JL p l e s m below meth c D tc sa cJ cD x1 x2 adr b Q E kd ad rh μr μc v8 d8 (1000 + 300 * n) (10000 + 5000 * n) 1748 [(5, .int (nI i)), (4, .ref x2), (3, .ref x1), (2, .ref (adr 0 0)), (1, .ref a0), (0, .ref b)] []
section LwC
variable {p : Program} {l : Launch} {e : Env} {s : State} {m : MethodId} {below : List Frame} {meth : Method} {c : Code} {D : va_G} {tc : Nat → ClassId} {sa : Nat → Nat} {cJ cD : ClassId} {x1 x2 a0 b L n len : Nat} {adr ad : Nat → Nat → Nat} {Q : State → Prop} {xs : Nat → Int32} {S : sqSt} {sv : Option sqSt} {β : Nat → Int32} {T : List Nat} {E : List (Nat × Nat)} {kd : Nat → gKd} {rh : gRh} {μr μc : gM} {v8 : Int64} {d8 : UInt64}
theorem lwC_start (hlz : l.stackTraces = false) (hx : va_X b L xs s s.heap) (hbl : b < s.heap.size) (hL : 4 * n + 4 ≤ L) (hL2 : L ≤ 2048) (hI : gI (mxE gE_R E) (mxA adr ad)) (hS : cSt a0 S sv β len T E kd ad rh μc) (hr : rSt n S sv β len T μr) (hZ : lJ n S sv) (hN : lwN p l e s m below meth c D tc sa cJ cD x1 x2 adr b Q a0 (n + 1) (4 * n)) : JL p l e s m below meth c D tc sa cJ cD x1 x2 adr b Q E kd ad rh μr μc v8 d8 (1000 + 300 * n) (10000 + 5000 * n) 168 [(5, .int (nI (4 * n))), (4, .ref x2), (3, .ref x1), (2, .ref (adr 0 0)), (1, .ref a0), (0, .ref b)] [] := by
  have hn : n ≤ 600 := by omega
  have hIR : gI gE_R adr := gI_mxa mxL_R.1 hI
  refine JX_aload_n (i := 1) (q := 4) (pc1 := 169) dL_law_168 rfl rfl rfl ?_
  refine JX_aload_n (i := 0) (q := 5) (pc1 := 170) dL_law_169 rfl rfl rfl ?_
  refine JX_iload (i := 5) (q := 0) (pc1 := 172) dL_law_170 rfl rfl ?_
  refine JX_iconst (v := 1) (pc1 := 173) dL_law_172 (by decide) rfl ?_
  refine JX_iadd (pc1 := 174) dL_law_173 rfl ?_
  refine JX_eqI (y := nI (4 * n + 1)) (nI_add (4 * n) 1) ?_
  refine JX_sld (x := xs (4 * n + 1)) (pc1 := 175) hx hbl (Nat.not_le.mpr hbl) (vp_in_nI (by omega) (by omega)) (by rw [nI_clamp (by omega)]) dL_law_174 rfl ?_
  refine JX_aload_n (i := 0) (q := 5) (pc1 := 176) dL_law_175 rfl rfl rfl ?_
  refine JX_iload (i := 5) (q := 0) (pc1 := 178) dL_law_176 rfl rfl ?_
  refine JX_iconst (v := 2) (pc1 := 179) dL_law_178 (by decide) rfl ?_
  refine JX_iadd (pc1 := 180) dL_law_179 rfl ?_
  refine JX_eqI (y := nI (4 * n + 2)) (nI_add (4 * n) 2) ?_
  refine JX_sld (x := xs (4 * n + 2)) (pc1 := 181) hx hbl (Nat.not_le.mpr hbl) (vp_in_nI (by omega) (by omega)) (by rw [nI_clamp (by omega)]) dL_law_180 rfl ?_
  refine JX_aload_n (i := 3) (q := 2) (pc1 := 182) dL_law_181 rfl rfl rfl ?_
  refine JX_mixBW (ce := 1000 + 300 * n + 1) (sl := 10000 + 5000 * n + 6) (pc1 := 185) (st := []) (As := [.ref a0, .int (xs (4 * n + 1)), .int (xs (4 * n + 2)), .ref x1]) hI mxL_R (lW_start (a1 := xs (4 * n + 1)) (a2 := xs (4 * n + 2)) hlz hS hZ.1 hn) wwL_start wlL_108 rfl ⟨Nat.le_of_ble_eq_true rfl, Nat.le_of_ble_eq_true rfl⟩ ⟨by show 1000 + 300 * n + 1 ≤ 603072; omega, by show 10000 + 5000 * n + 6 ≤ 7219305; omega⟩ (Nat.le_of_ble_eq_true rfl) dL_law_182 rfl rfl rfl (fun o E1 kd1 ad1 rh1 μ1 w8 e8 hp hI1 => ?_)
  obtain ⟨rfl, hS1, hv⟩ := hp
  show JL p l e s m below meth c D tc sa cJ cD x1 x2 adr b Q E1 kd1 ad1 rh1 μr μ1 w8 e8 (1000 + 300 * n + 1) (10000 + 5000 * n + 6) 185 [(5, .int (nI (4 * n))), (4, .ref x2), (3, .ref x1), (2, .ref (adr 0 0)), (1, .ref a0), (0, .ref b)] [.int (nI (zaStart S (xs (4 * n + 1)).toInt (xs (4 * n + 2))).1)]
  refine JX_istore (i := 6) (lv1 := [(6, .int (nI (zaStart S (xs (4 * n + 1)).toInt (xs (4 * n + 2))).1)), (5, .int (nI (4 * n))), (4, .ref x2), (3, .ref x1), (2, .ref (adr 0 0)), (1, .ref a0), (0, .ref b)]) (pc1 := 187) dL_law_185 (by decide) rfl rfl ?_
  refine JX_aload_n (i := 2) (q := 4) (pc1 := 188) dL_law_187 rfl rfl rfl ?_
  refine JX_aload_n (i := 0) (q := 6) (pc1 := 189) dL_law_188 rfl rfl rfl ?_
  refine JX_iload (i := 5) (q := 1) (pc1 := 191) dL_law_189 rfl rfl ?_
  refine JX_iconst (v := 1) (pc1 := 192) dL_law_191 (by decide) rfl ?_
  refine JX_iadd (pc1 := 193) dL_law_192 rfl ?_
  refine JX_eqI (y := nI (4 * n + 1)) (nI_add (4 * n) 1) ?_
  refine JX_sld (x := xs (4 * n + 1)) (pc1 := 194) hx hbl (Nat.not_le.mpr hbl) (vp_in_nI (by omega) (by omega)) (by rw [nI_clamp (by omega)]) dL_law_193 rfl ?_
  refine JX_aload_n (i := 0) (q := 6) (pc1 := 195) dL_law_194 rfl rfl rfl ?_
  refine JX_iload (i := 5) (q := 1) (pc1 := 197) dL_law_195 rfl rfl ?_
  refine JX_iconst (v := 2) (pc1 := 198) dL_law_197 (by decide) rfl ?_
  refine JX_iadd (pc1 := 199) dL_law_198 rfl ?_
  refine JX_eqI (y := nI (4 * n + 2)) (nI_add (4 * n) 2) ?_
  refine JX_sld (x := xs (4 * n + 2)) (pc1 := 200) hx hbl (Nat.not_le.mpr hbl) (vp_in_nI (by omega) (by omega)) (by rw [nI_clamp (by omega)]) dL_law_199 rfl ?_
  obtain ⟨b9, μ9, hM, hc9, hb9, hr9, hZ9⟩ := rC_start (l := l) (D := D) (tc := tc) (sa := sa) (ad := adr) (a1 := xs (4 * n + 1)) (a2 := xs (4 * n + 2)) hIR hr hZ hn
  refine JX_mixAM (mc := 0) (ms := 0) (o := some (.int b9)) (μ1 := μ9) (pc1 := 203) (st := []) (st1 := [.int b9]) (ce := 1000 + 300 * n + 1) (sl := 10000 + 5000 * n + 6) hI1 mxL_R (J_hV (st := []) (As := [.int (xs (4 * n + 1)), .int (xs (4 * n + 2))]) (hM) wcX7_start rfl wlL_113 (mxA_a (by decide)).symm (mxE_a eR0) rfl rfl rfl ⟨Nat.le_of_ble_eq_true rfl, Nat.le_of_ble_eq_true rfl⟩ ⟨by show 1000 + 300 * n + 1 + 0 ≤ 603072; omega, by show 10000 + 5000 * n + 6 + 0 ≤ 7219305; omega⟩ (Nat.le_of_ble_eq_true rfl) dL_law_200) rfl rfl rfl rfl ?_
  refine JX_istore (i := 7) (lv1 := [(7, .int b9), (6, .int (nI (zaStart S (xs (4 * n + 1)).toInt (xs (4 * n + 2))).1)), (5, .int (nI (4 * n))), (4, .ref x2), (3, .ref x1), (2, .ref (adr 0 0)), (1, .ref a0), (0, .ref b)]) (pc1 := 205) dL_law_203 (by decide) rfl rfl ?_
  refine JX_aload_n (i := 2) (q := 5) (pc1 := 206) dL_law_205 rfl rfl rfl ?_
  refine JX_mixAM (mc := 0) (ms := 0) (o := some (.int (μ9 0 0 0))) (μ1 := μ9) (pc1 := 209) (st := []) (st1 := [.int (μ9 0 0 0)]) (ce := 1000 + 300 * n + 1) (sl := 10000 + 5000 * n + 6) hI1 mxL_R (J_hV (st := []) (As := []) (rC_thrown hIR) wcX7_thrown rfl wlL_114 (mxA_a (by decide)).symm (mxE_a eR0) rfl rfl rfl ⟨Nat.le_of_ble_eq_true rfl, Nat.le_of_ble_eq_true rfl⟩ ⟨by show 1000 + 300 * n + 1 + 0 ≤ 603072; omega, by show 10000 + 5000 * n + 6 + 0 ≤ 7219305; omega⟩ (Nat.le_of_ble_eq_true rfl) dL_law_206) rfl rfl rfl rfl ?_
  refine JX_iload (i := 6) (q := 1) (pc1 := 211) dL_law_209 rfl rfl ?_
  refine JX_icmp_eq (tgt := 216) (pc1 := 214) dL_law_211 (by decide) (fun qq => ?_) rfl (fun qq => absurd (th_eq hc9 (Nat.le_trans (zc_Start (S := S) (g := (xs (4 * n + 1)).toInt) (v := (xs (4 * n + 2)))) (Nat.le_of_ble_eq_true rfl))) qq)
  refine JX_iload (i := 6) (q := 1) (pc1 := 218) dL_law_216 rfl rfl ?_
  refine JX_if_ne (tgt := 233) (pc1 := 221) dL_law_218 (by decide) (fun qq => ?_) rfl (fun qq => ?_)
  · skip
    refine JX_goto (tgt := 1748) dL_law_233 (by decide) ?_
    exact JX_sub [2, 3, 4, 5, 6, 7] rfl (JX_widen (by omega) (by omega) (hN _ _ _ _ _ _ _ _ _ _ _ _ _ hS1 hr9 hZ9 hI1))
  · skip
    have h0 := th_0 qq (Nat.le_trans (zc_Start (S := S) (g := (xs (4 * n + 1)).toInt) (v := (xs (4 * n + 2)))) (Nat.le_of_ble_eq_true rfl))
    obtain ⟨r9, rfl, hr0⟩ := hv h0
    have e9 : r9 = b9 := Int32.toInt_inj.mp (hr0.trans (hb9 h0).symm)
    rw [e9]
    refine JX_aload_n (i := 3) (q := 4) (pc1 := 222) dL_law_221 rfl rfl rfl ?_
    refine JX_iconst (v := 0) (pc1 := 223) dL_law_222 (by decide) rfl ?_
    refine JX_lald (pc1 := 224) dL_law_223 rfl ?_
    refine JX_iload (i := 7) (q := 0) (pc1 := 226) dL_law_224 rfl rfl ?_
    refine JX_i2l (v := (b9).toInt64) (pc1 := 227) dL_law_226 rfl rfl ?_
    refine JX_lcmp (v := 0) (pc1 := 228) dL_law_227 (lg_self _) rfl ?_
    refine JX_if_eq (tgt := 233) (pc1 := 231) dL_law_228 (by decide) (fun qq => ?_) rfl (fun qq => absurd (rfl) qq)
    refine JX_goto (tgt := 1748) dL_law_233 (by decide) ?_
    exact JX_sub [2, 3, 4, 5, 6, 7] rfl (JX_widen (by omega) (by omega) (hN _ _ _ _ _ _ _ _ _ _ _ _ _ hS1 hr9 hZ9 hI1))
theorem lwC_tick (hlz : l.stackTraces = false) (hx : va_X b L xs s s.heap) (hbl : b < s.heap.size) (hL : 4 * n + 4 ≤ L) (hL2 : L ≤ 2048) (hI : gI (mxE gE_R E) (mxA adr ad)) (hS : cSt a0 S sv β len T E kd ad rh μc) (hr : rSt n S sv β len T μr) (hZ : lJ n S sv) (hN : lwN p l e s m below meth c D tc sa cJ cD x1 x2 adr b Q a0 (n + 1) (4 * n)) : JL p l e s m below meth c D tc sa cJ cD x1 x2 adr b Q E kd ad rh μr μc v8 d8 (1000 + 300 * n) (10000 + 5000 * n) 236 [(5, .int (nI (4 * n))), (4, .ref x2), (3, .ref x1), (2, .ref (adr 0 0)), (1, .ref a0), (0, .ref b)] [] := by
  have hn : n ≤ 600 := by omega
  have hIR : gI gE_R adr := gI_mxa mxL_R.1 hI
  refine JX_aload_n (i := 1) (q := 4) (pc1 := 237) dL_law_236 rfl rfl rfl ?_
  refine JX_aload_n (i := 0) (q := 5) (pc1 := 238) dL_law_237 rfl rfl rfl ?_
  refine JX_iload (i := 5) (q := 0) (pc1 := 240) dL_law_238 rfl rfl ?_
  refine JX_iconst (v := 1) (pc1 := 241) dL_law_240 (by decide) rfl ?_
  refine JX_iadd (pc1 := 242) dL_law_241 rfl ?_
  refine JX_eqI (y := nI (4 * n + 1)) (nI_add (4 * n) 1) ?_
  refine JX_sld (x := xs (4 * n + 1)) (pc1 := 243) hx hbl (Nat.not_le.mpr hbl) (vp_in_nI (by omega) (by omega)) (by rw [nI_clamp (by omega)]) dL_law_242 rfl ?_
  refine JX_aload_n (i := 3) (q := 2) (pc1 := 244) dL_law_243 rfl rfl rfl ?_
  refine JX_mixBW (ce := 1000 + 300 * n + 1) (sl := 10000 + 5000 * n + 6) (pc1 := 247) (st := []) (As := [.ref a0, .int (xs (4 * n + 1)), .ref x1]) hI mxL_R (lW_tick (a1 := xs (4 * n + 1)) hlz hS hZ.1 hn) wwL_tick wlL_117 rfl ⟨Nat.le_of_ble_eq_true rfl, Nat.le_of_ble_eq_true rfl⟩ ⟨by show 1000 + 300 * n + 1 ≤ 603072; omega, by show 10000 + 5000 * n + 6 ≤ 7219305; omega⟩ (Nat.le_of_ble_eq_true rfl) dL_law_244 rfl rfl rfl (fun o E1 kd1 ad1 rh1 μ1 w8 e8 hp hI1 => ?_)
  obtain ⟨rfl, hS1, hv⟩ := hp
  show JL p l e s m below meth c D tc sa cJ cD x1 x2 adr b Q E1 kd1 ad1 rh1 μr μ1 w8 e8 (1000 + 300 * n + 1) (10000 + 5000 * n + 6) 247 [(5, .int (nI (4 * n))), (4, .ref x2), (3, .ref x1), (2, .ref (adr 0 0)), (1, .ref a0), (0, .ref b)] [.int (nI (zaTick S (xs (4 * n + 1)).toInt).1)]
  refine JX_istore (i := 6) (lv1 := [(6, .int (nI (zaTick S (xs (4 * n + 1)).toInt).1)), (5, .int (nI (4 * n))), (4, .ref x2), (3, .ref x1), (2, .ref (adr 0 0)), (1, .ref a0), (0, .ref b)]) (pc1 := 249) dL_law_247 (by decide) rfl rfl ?_
  refine JX_aload_n (i := 2) (q := 4) (pc1 := 250) dL_law_249 rfl rfl rfl ?_
  refine JX_aload_n (i := 0) (q := 6) (pc1 := 251) dL_law_250 rfl rfl rfl ?_
  refine JX_iload (i := 5) (q := 1) (pc1 := 253) dL_law_251 rfl rfl ?_
  refine JX_iconst (v := 1) (pc1 := 254) dL_law_253 (by decide) rfl ?_
  refine JX_iadd (pc1 := 255) dL_law_254 rfl ?_
  refine JX_eqI (y := nI (4 * n + 1)) (nI_add (4 * n) 1) ?_
  refine JX_sld (x := xs (4 * n + 1)) (pc1 := 256) hx hbl (Nat.not_le.mpr hbl) (vp_in_nI (by omega) (by omega)) (by rw [nI_clamp (by omega)]) dL_law_255 rfl ?_
  obtain ⟨b9, μ9, hM, hc9, hb9, hr9, hZ9⟩ := rC_tick (l := l) (D := D) (tc := tc) (sa := sa) (ad := adr) (a1 := xs (4 * n + 1)) hIR hr hZ hn
  refine JX_mixAM (mc := 0) (ms := 0) (o := some (.int b9)) (μ1 := μ9) (pc1 := 259) (st := []) (st1 := [.int b9]) (ce := 1000 + 300 * n + 1) (sl := 10000 + 5000 * n + 6) hI1 mxL_R (J_hV (st := []) (As := [.int (xs (4 * n + 1))]) (hM) wcX7_tick rfl wlL_120 (mxA_a (by decide)).symm (mxE_a eR0) rfl rfl rfl ⟨Nat.le_of_ble_eq_true rfl, Nat.le_of_ble_eq_true rfl⟩ ⟨by show 1000 + 300 * n + 1 + 0 ≤ 603072; omega, by show 10000 + 5000 * n + 6 + 0 ≤ 7219305; omega⟩ (Nat.le_of_ble_eq_true rfl) dL_law_256) rfl rfl rfl rfl ?_
  refine JX_istore (i := 7) (lv1 := [(7, .int b9), (6, .int (nI (zaTick S (xs (4 * n + 1)).toInt).1)), (5, .int (nI (4 * n))), (4, .ref x2), (3, .ref x1), (2, .ref (adr 0 0)), (1, .ref a0), (0, .ref b)]) (pc1 := 261) dL_law_259 (by decide) rfl rfl ?_
  refine JX_aload_n (i := 2) (q := 5) (pc1 := 262) dL_law_261 rfl rfl rfl ?_
  refine JX_mixAM (mc := 0) (ms := 0) (o := some (.int (μ9 0 0 0))) (μ1 := μ9) (pc1 := 265) (st := []) (st1 := [.int (μ9 0 0 0)]) (ce := 1000 + 300 * n + 1) (sl := 10000 + 5000 * n + 6) hI1 mxL_R (J_hV (st := []) (As := []) (rC_thrown hIR) wcX7_thrown rfl wlL_114 (mxA_a (by decide)).symm (mxE_a eR0) rfl rfl rfl ⟨Nat.le_of_ble_eq_true rfl, Nat.le_of_ble_eq_true rfl⟩ ⟨by show 1000 + 300 * n + 1 + 0 ≤ 603072; omega, by show 10000 + 5000 * n + 6 + 0 ≤ 7219305; omega⟩ (Nat.le_of_ble_eq_true rfl) dL_law_262) rfl rfl rfl rfl ?_
  refine JX_iload (i := 6) (q := 1) (pc1 := 267) dL_law_265 rfl rfl ?_
  refine JX_icmp_eq (tgt := 272) (pc1 := 270) dL_law_267 (by decide) (fun qq => ?_) rfl (fun qq => absurd (th_eq hc9 (Nat.le_trans (zc_Tick (S := S) (t := (xs (4 * n + 1)).toInt)) (Nat.le_of_ble_eq_true rfl))) qq)
  refine JX_iload (i := 6) (q := 1) (pc1 := 274) dL_law_272 rfl rfl ?_
  refine JX_if_ne (tgt := 289) (pc1 := 277) dL_law_274 (by decide) (fun qq => ?_) rfl (fun qq => ?_)
  · skip
    refine JX_goto (tgt := 1748) dL_law_289 (by decide) ?_
    exact JX_sub [2, 3, 4, 5, 6, 7] rfl (JX_widen (by omega) (by omega) (hN _ _ _ _ _ _ _ _ _ _ _ _ _ hS1 hr9 hZ9 hI1))
  · skip
    have h0 := th_0 qq (Nat.le_trans (zc_Tick (S := S) (t := (xs (4 * n + 1)).toInt)) (Nat.le_of_ble_eq_true rfl))
    obtain ⟨r9, rfl, hr0⟩ := hv h0
    have e9 : r9 = b9 := Int32.toInt_inj.mp (hr0.trans (hb9 h0).symm)
    rw [e9]
    refine JX_aload_n (i := 3) (q := 4) (pc1 := 278) dL_law_277 rfl rfl rfl ?_
    refine JX_iconst (v := 0) (pc1 := 279) dL_law_278 (by decide) rfl ?_
    refine JX_lald (pc1 := 280) dL_law_279 rfl ?_
    refine JX_iload (i := 7) (q := 0) (pc1 := 282) dL_law_280 rfl rfl ?_
    refine JX_i2l (v := (b9).toInt64) (pc1 := 283) dL_law_282 rfl rfl ?_
    refine JX_lcmp (v := 0) (pc1 := 284) dL_law_283 (lg_self _) rfl ?_
    refine JX_if_eq (tgt := 289) (pc1 := 287) dL_law_284 (by decide) (fun qq => ?_) rfl (fun qq => absurd (rfl) qq)
    refine JX_goto (tgt := 1748) dL_law_289 (by decide) ?_
    exact JX_sub [2, 3, 4, 5, 6, 7] rfl (JX_widen (by omega) (by omega) (hN _ _ _ _ _ _ _ _ _ _ _ _ _ hS1 hr9 hZ9 hI1))
theorem lwC_setDelay (hlz : l.stackTraces = false) (hx : va_X b L xs s s.heap) (hbl : b < s.heap.size) (hL : 4 * n + 4 ≤ L) (hL2 : L ≤ 2048) (hI : gI (mxE gE_R E) (mxA adr ad)) (hS : cSt a0 S sv β len T E kd ad rh μc) (hr : rSt n S sv β len T μr) (hZ : lJ n S sv) (hN : lwN p l e s m below meth c D tc sa cJ cD x1 x2 adr b Q a0 (n + 1) (4 * n)) : JL p l e s m below meth c D tc sa cJ cD x1 x2 adr b Q E kd ad rh μr μc v8 d8 (1000 + 300 * n) (10000 + 5000 * n) 292 [(5, .int (nI (4 * n))), (4, .ref x2), (3, .ref x1), (2, .ref (adr 0 0)), (1, .ref a0), (0, .ref b)] [] := by
  have hn : n ≤ 600 := by omega
  have hIR : gI gE_R adr := gI_mxa mxL_R.1 hI
  refine JX_aload_n (i := 1) (q := 4) (pc1 := 293) dL_law_292 rfl rfl rfl ?_
  refine JX_aload_n (i := 0) (q := 5) (pc1 := 294) dL_law_293 rfl rfl rfl ?_
  refine JX_iload (i := 5) (q := 0) (pc1 := 296) dL_law_294 rfl rfl ?_
  refine JX_iconst (v := 1) (pc1 := 297) dL_law_296 (by decide) rfl ?_
  refine JX_iadd (pc1 := 298) dL_law_297 rfl ?_
  refine JX_eqI (y := nI (4 * n + 1)) (nI_add (4 * n) 1) ?_
  refine JX_sld (x := xs (4 * n + 1)) (pc1 := 299) hx hbl (Nat.not_le.mpr hbl) (vp_in_nI (by omega) (by omega)) (by rw [nI_clamp (by omega)]) dL_law_298 rfl ?_
  refine JX_aload_n (i := 3) (q := 2) (pc1 := 300) dL_law_299 rfl rfl rfl ?_
  refine JX_mixBW (ce := 1000 + 300 * n + 1) (sl := 10000 + 5000 * n + 6) (pc1 := 303) (st := []) (As := [.ref a0, .int (xs (4 * n + 1)), .ref x1]) hI mxL_R (lW_setDelay (a1 := xs (4 * n + 1)) hlz hS hZ.1 hn) wwL_setDelay wlL_121 rfl ⟨Nat.le_of_ble_eq_true rfl, Nat.le_of_ble_eq_true rfl⟩ ⟨by show 1000 + 300 * n + 1 ≤ 603072; omega, by show 10000 + 5000 * n + 6 ≤ 7219305; omega⟩ (Nat.le_of_ble_eq_true rfl) dL_law_300 rfl rfl rfl (fun o E1 kd1 ad1 rh1 μ1 w8 e8 hp hI1 => ?_)
  obtain ⟨rfl, hS1, hv⟩ := hp
  show JL p l e s m below meth c D tc sa cJ cD x1 x2 adr b Q E1 kd1 ad1 rh1 μr μ1 w8 e8 (1000 + 300 * n + 1) (10000 + 5000 * n + 6) 303 [(5, .int (nI (4 * n))), (4, .ref x2), (3, .ref x1), (2, .ref (adr 0 0)), (1, .ref a0), (0, .ref b)] [.int (nI (zaDelay S (xs (4 * n + 1)).toInt).1)]
  refine JX_istore (i := 6) (lv1 := [(6, .int (nI (zaDelay S (xs (4 * n + 1)).toInt).1)), (5, .int (nI (4 * n))), (4, .ref x2), (3, .ref x1), (2, .ref (adr 0 0)), (1, .ref a0), (0, .ref b)]) (pc1 := 305) dL_law_303 (by decide) rfl rfl ?_
  refine JX_aload_n (i := 2) (q := 4) (pc1 := 306) dL_law_305 rfl rfl rfl ?_
  refine JX_aload_n (i := 0) (q := 6) (pc1 := 307) dL_law_306 rfl rfl rfl ?_
  refine JX_iload (i := 5) (q := 1) (pc1 := 309) dL_law_307 rfl rfl ?_
  refine JX_iconst (v := 1) (pc1 := 310) dL_law_309 (by decide) rfl ?_
  refine JX_iadd (pc1 := 311) dL_law_310 rfl ?_
  refine JX_eqI (y := nI (4 * n + 1)) (nI_add (4 * n) 1) ?_
  refine JX_sld (x := xs (4 * n + 1)) (pc1 := 312) hx hbl (Nat.not_le.mpr hbl) (vp_in_nI (by omega) (by omega)) (by rw [nI_clamp (by omega)]) dL_law_311 rfl ?_
  obtain ⟨b9, μ9, hM, hc9, hb9, hr9, hZ9⟩ := rC_setDelay (l := l) (D := D) (tc := tc) (sa := sa) (ad := adr) (a1 := xs (4 * n + 1)) hIR hr hZ hn
  refine JX_mixAM (mc := 0) (ms := 0) (o := some (.int b9)) (μ1 := μ9) (pc1 := 315) (st := []) (st1 := [.int b9]) (ce := 1000 + 300 * n + 1) (sl := 10000 + 5000 * n + 6) hI1 mxL_R (J_hV (st := []) (As := [.int (xs (4 * n + 1))]) (hM) wcX7_setDelay rfl wlL_123 (mxA_a (by decide)).symm (mxE_a eR0) rfl rfl rfl ⟨Nat.le_of_ble_eq_true rfl, Nat.le_of_ble_eq_true rfl⟩ ⟨by show 1000 + 300 * n + 1 + 0 ≤ 603072; omega, by show 10000 + 5000 * n + 6 + 0 ≤ 7219305; omega⟩ (Nat.le_of_ble_eq_true rfl) dL_law_312) rfl rfl rfl rfl ?_
  refine JX_istore (i := 7) (lv1 := [(7, .int b9), (6, .int (nI (zaDelay S (xs (4 * n + 1)).toInt).1)), (5, .int (nI (4 * n))), (4, .ref x2), (3, .ref x1), (2, .ref (adr 0 0)), (1, .ref a0), (0, .ref b)]) (pc1 := 317) dL_law_315 (by decide) rfl rfl ?_
  refine JX_aload_n (i := 2) (q := 5) (pc1 := 318) dL_law_317 rfl rfl rfl ?_
  refine JX_mixAM (mc := 0) (ms := 0) (o := some (.int (μ9 0 0 0))) (μ1 := μ9) (pc1 := 321) (st := []) (st1 := [.int (μ9 0 0 0)]) (ce := 1000 + 300 * n + 1) (sl := 10000 + 5000 * n + 6) hI1 mxL_R (J_hV (st := []) (As := []) (rC_thrown hIR) wcX7_thrown rfl wlL_114 (mxA_a (by decide)).symm (mxE_a eR0) rfl rfl rfl ⟨Nat.le_of_ble_eq_true rfl, Nat.le_of_ble_eq_true rfl⟩ ⟨by show 1000 + 300 * n + 1 + 0 ≤ 603072; omega, by show 10000 + 5000 * n + 6 + 0 ≤ 7219305; omega⟩ (Nat.le_of_ble_eq_true rfl) dL_law_318) rfl rfl rfl rfl ?_
  refine JX_iload (i := 6) (q := 1) (pc1 := 323) dL_law_321 rfl rfl ?_
  refine JX_icmp_eq (tgt := 328) (pc1 := 326) dL_law_323 (by decide) (fun qq => ?_) rfl (fun qq => absurd (th_eq hc9 (Nat.le_trans (zc_Delay (S := S) (d := (xs (4 * n + 1)).toInt)) (Nat.le_of_ble_eq_true rfl))) qq)
  refine JX_iload (i := 6) (q := 1) (pc1 := 330) dL_law_328 rfl rfl ?_
  refine JX_if_ne (tgt := 345) (pc1 := 333) dL_law_330 (by decide) (fun qq => ?_) rfl (fun qq => ?_)
  · skip
    refine JX_goto (tgt := 1748) dL_law_345 (by decide) ?_
    exact JX_sub [2, 3, 4, 5, 6, 7] rfl (JX_widen (by omega) (by omega) (hN _ _ _ _ _ _ _ _ _ _ _ _ _ hS1 hr9 hZ9 hI1))
  · skip
    have h0 := th_0 qq (Nat.le_trans (zc_Delay (S := S) (d := (xs (4 * n + 1)).toInt)) (Nat.le_of_ble_eq_true rfl))
    obtain ⟨r9, rfl, hr0⟩ := hv h0
    have e9 : r9 = b9 := Int32.toInt_inj.mp (hr0.trans (hb9 h0).symm)
    rw [e9]
    refine JX_aload_n (i := 3) (q := 4) (pc1 := 334) dL_law_333 rfl rfl rfl ?_
    refine JX_iconst (v := 0) (pc1 := 335) dL_law_334 (by decide) rfl ?_
    refine JX_lald (pc1 := 336) dL_law_335 rfl ?_
    refine JX_iload (i := 7) (q := 0) (pc1 := 338) dL_law_336 rfl rfl ?_
    refine JX_i2l (v := (b9).toInt64) (pc1 := 339) dL_law_338 rfl rfl ?_
    refine JX_lcmp (v := 0) (pc1 := 340) dL_law_339 (lg_self _) rfl ?_
    refine JX_if_eq (tgt := 345) (pc1 := 343) dL_law_340 (by decide) (fun qq => ?_) rfl (fun qq => absurd (rfl) qq)
    refine JX_goto (tgt := 1748) dL_law_345 (by decide) ?_
    exact JX_sub [2, 3, 4, 5, 6, 7] rfl (JX_widen (by omega) (by omega) (hN _ _ _ _ _ _ _ _ _ _ _ _ _ hS1 hr9 hZ9 hI1))
theorem lwC_crash (hlz : l.stackTraces = false) (hx : va_X b L xs s s.heap) (hbl : b < s.heap.size) (hL : 4 * n + 4 ≤ L) (hL2 : L ≤ 2048) (hI : gI (mxE gE_R E) (mxA adr ad)) (hS : cSt a0 S sv β len T E kd ad rh μc) (hr : rSt n S sv β len T μr) (hZ : lJ n S sv) (hN : lwN p l e s m below meth c D tc sa cJ cD x1 x2 adr b Q a0 (n + 1) (4 * n)) : JL p l e s m below meth c D tc sa cJ cD x1 x2 adr b Q E kd ad rh μr μc v8 d8 (1000 + 300 * n) (10000 + 5000 * n) 451 [(5, .int (nI (4 * n))), (4, .ref x2), (3, .ref x1), (2, .ref (adr 0 0)), (1, .ref a0), (0, .ref b)] [] := by
  have hn : n ≤ 600 := by omega
  have hIR : gI gE_R adr := gI_mxa mxL_R.1 hI
  refine JX_aload_n (i := 1) (q := 4) (pc1 := 452) dL_law_451 rfl rfl rfl ?_
  refine JX_aload_n (i := 0) (q := 5) (pc1 := 453) dL_law_452 rfl rfl rfl ?_
  refine JX_iload (i := 5) (q := 0) (pc1 := 455) dL_law_453 rfl rfl ?_
  refine JX_iconst (v := 1) (pc1 := 456) dL_law_455 (by decide) rfl ?_
  refine JX_iadd (pc1 := 457) dL_law_456 rfl ?_
  refine JX_eqI (y := nI (4 * n + 1)) (nI_add (4 * n) 1) ?_
  refine JX_sld (x := xs (4 * n + 1)) (pc1 := 458) hx hbl (Nat.not_le.mpr hbl) (vp_in_nI (by omega) (by omega)) (by rw [nI_clamp (by omega)]) dL_law_457 rfl ?_
  refine JX_aload_n (i := 3) (q := 2) (pc1 := 459) dL_law_458 rfl rfl rfl ?_
  refine JX_mixBW (ce := 1000 + 300 * n + 1) (sl := 10000 + 5000 * n + 6) (pc1 := 462) (st := []) (As := [.ref a0, .int (xs (4 * n + 1)), .ref x1]) hI mxL_R (lW_crash (a1 := xs (4 * n + 1)) hlz hS hZ.1 hn) wwL_crash wlL_128 rfl ⟨Nat.le_of_ble_eq_true rfl, Nat.le_of_ble_eq_true rfl⟩ ⟨by show 1000 + 300 * n + 1 ≤ 603072; omega, by show 10000 + 5000 * n + 6 ≤ 7219305; omega⟩ (Nat.le_of_ble_eq_true rfl) dL_law_459 rfl rfl rfl (fun o E1 kd1 ad1 rh1 μ1 w8 e8 hp hI1 => ?_)
  obtain ⟨rfl, hS1, hv⟩ := hp
  show JL p l e s m below meth c D tc sa cJ cD x1 x2 adr b Q E1 kd1 ad1 rh1 μr μ1 w8 e8 (1000 + 300 * n + 1) (10000 + 5000 * n + 6) 462 [(5, .int (nI (4 * n))), (4, .ref x2), (3, .ref x1), (2, .ref (adr 0 0)), (1, .ref a0), (0, .ref b)] [.int (nI (zaCrash S (xs (4 * n + 1)).toInt).1)]
  refine JX_istore (i := 6) (lv1 := [(6, .int (nI (zaCrash S (xs (4 * n + 1)).toInt).1)), (5, .int (nI (4 * n))), (4, .ref x2), (3, .ref x1), (2, .ref (adr 0 0)), (1, .ref a0), (0, .ref b)]) (pc1 := 464) dL_law_462 (by decide) rfl rfl ?_
  refine JX_aload_n (i := 2) (q := 4) (pc1 := 465) dL_law_464 rfl rfl rfl ?_
  refine JX_aload_n (i := 0) (q := 6) (pc1 := 466) dL_law_465 rfl rfl rfl ?_
  refine JX_iload (i := 5) (q := 1) (pc1 := 468) dL_law_466 rfl rfl ?_
  refine JX_iconst (v := 1) (pc1 := 469) dL_law_468 (by decide) rfl ?_
  refine JX_iadd (pc1 := 470) dL_law_469 rfl ?_
  refine JX_eqI (y := nI (4 * n + 1)) (nI_add (4 * n) 1) ?_
  refine JX_sld (x := xs (4 * n + 1)) (pc1 := 471) hx hbl (Nat.not_le.mpr hbl) (vp_in_nI (by omega) (by omega)) (by rw [nI_clamp (by omega)]) dL_law_470 rfl ?_
  obtain ⟨b9, μ9, hM, hc9, hb9, hr9, hZ9⟩ := rC_crash (l := l) (D := D) (tc := tc) (sa := sa) (ad := adr) (a1 := xs (4 * n + 1)) hIR hr hZ hn
  refine JX_mixAM (mc := 0) (ms := 0) (o := some (.int b9)) (μ1 := μ9) (pc1 := 474) (st := []) (st1 := [.int b9]) (ce := 1000 + 300 * n + 1) (sl := 10000 + 5000 * n + 6) hI1 mxL_R (J_hV (st := []) (As := [.int (xs (4 * n + 1))]) (hM) wcX7_crash rfl wlL_130 (mxA_a (by decide)).symm (mxE_a eR0) rfl rfl rfl ⟨Nat.le_of_ble_eq_true rfl, Nat.le_of_ble_eq_true rfl⟩ ⟨by show 1000 + 300 * n + 1 + 0 ≤ 603072; omega, by show 10000 + 5000 * n + 6 + 0 ≤ 7219305; omega⟩ (Nat.le_of_ble_eq_true rfl) dL_law_471) rfl rfl rfl rfl ?_
  refine JX_istore (i := 7) (lv1 := [(7, .int b9), (6, .int (nI (zaCrash S (xs (4 * n + 1)).toInt).1)), (5, .int (nI (4 * n))), (4, .ref x2), (3, .ref x1), (2, .ref (adr 0 0)), (1, .ref a0), (0, .ref b)]) (pc1 := 476) dL_law_474 (by decide) rfl rfl ?_
  refine JX_aload_n (i := 2) (q := 5) (pc1 := 477) dL_law_476 rfl rfl rfl ?_
  refine JX_mixAM (mc := 0) (ms := 0) (o := some (.int (μ9 0 0 0))) (μ1 := μ9) (pc1 := 480) (st := []) (st1 := [.int (μ9 0 0 0)]) (ce := 1000 + 300 * n + 1) (sl := 10000 + 5000 * n + 6) hI1 mxL_R (J_hV (st := []) (As := []) (rC_thrown hIR) wcX7_thrown rfl wlL_114 (mxA_a (by decide)).symm (mxE_a eR0) rfl rfl rfl ⟨Nat.le_of_ble_eq_true rfl, Nat.le_of_ble_eq_true rfl⟩ ⟨by show 1000 + 300 * n + 1 + 0 ≤ 603072; omega, by show 10000 + 5000 * n + 6 + 0 ≤ 7219305; omega⟩ (Nat.le_of_ble_eq_true rfl) dL_law_477) rfl rfl rfl rfl ?_
  refine JX_iload (i := 6) (q := 1) (pc1 := 482) dL_law_480 rfl rfl ?_
  refine JX_icmp_eq (tgt := 487) (pc1 := 485) dL_law_482 (by decide) (fun qq => ?_) rfl (fun qq => absurd (th_eq hc9 (Nat.le_trans (zc_Crash (S := S) (a := (xs (4 * n + 1)).toInt)) (Nat.le_of_ble_eq_true rfl))) qq)
  refine JX_iload (i := 6) (q := 1) (pc1 := 489) dL_law_487 rfl rfl ?_
  refine JX_if_ne (tgt := 504) (pc1 := 492) dL_law_489 (by decide) (fun qq => ?_) rfl (fun qq => ?_)
  · skip
    refine JX_goto (tgt := 1748) dL_law_504 (by decide) ?_
    exact JX_sub [2, 3, 4, 5, 6, 7] rfl (JX_widen (by omega) (by omega) (hN _ _ _ _ _ _ _ _ _ _ _ _ _ hS1 hr9 hZ9 hI1))
  · skip
    have h0 := th_0 qq (Nat.le_trans (zc_Crash (S := S) (a := (xs (4 * n + 1)).toInt)) (Nat.le_of_ble_eq_true rfl))
    obtain ⟨r9, rfl, hr0⟩ := hv h0
    have e9 : r9 = b9 := Int32.toInt_inj.mp (hr0.trans (hb9 h0).symm)
    rw [e9]
    refine JX_aload_n (i := 3) (q := 4) (pc1 := 493) dL_law_492 rfl rfl rfl ?_
    refine JX_iconst (v := 0) (pc1 := 494) dL_law_493 (by decide) rfl ?_
    refine JX_lald (pc1 := 495) dL_law_494 rfl ?_
    refine JX_iload (i := 7) (q := 0) (pc1 := 497) dL_law_495 rfl rfl ?_
    refine JX_i2l (v := (b9).toInt64) (pc1 := 498) dL_law_497 rfl rfl ?_
    refine JX_lcmp (v := 0) (pc1 := 499) dL_law_498 (lg_self _) rfl ?_
    refine JX_if_eq (tgt := 504) (pc1 := 502) dL_law_499 (by decide) (fun qq => ?_) rfl (fun qq => absurd (rfl) qq)
    refine JX_goto (tgt := 1748) dL_law_504 (by decide) ?_
    exact JX_sub [2, 3, 4, 5, 6, 7] rfl (JX_widen (by omega) (by omega) (hN _ _ _ _ _ _ _ _ _ _ _ _ _ hS1 hr9 hZ9 hI1))
theorem lwC_restart (hlz : l.stackTraces = false) (hx : va_X b L xs s s.heap) (hbl : b < s.heap.size) (hL : 4 * n + 4 ≤ L) (hL2 : L ≤ 2048) (hI : gI (mxE gE_R E) (mxA adr ad)) (hS : cSt a0 S sv β len T E kd ad rh μc) (hr : rSt n S sv β len T μr) (hZ : lJ n S sv) (hN : lwN p l e s m below meth c D tc sa cJ cD x1 x2 adr b Q a0 (n + 1) (4 * n)) : JL p l e s m below meth c D tc sa cJ cD x1 x2 adr b Q E kd ad rh μr μc v8 d8 (1000 + 300 * n) (10000 + 5000 * n) 507 [(5, .int (nI (4 * n))), (4, .ref x2), (3, .ref x1), (2, .ref (adr 0 0)), (1, .ref a0), (0, .ref b)] [] := by
  have hn : n ≤ 600 := by omega
  have hIR : gI gE_R adr := gI_mxa mxL_R.1 hI
  refine JX_aload_n (i := 1) (q := 4) (pc1 := 508) dL_law_507 rfl rfl rfl ?_
  refine JX_aload_n (i := 0) (q := 5) (pc1 := 509) dL_law_508 rfl rfl rfl ?_
  refine JX_iload (i := 5) (q := 0) (pc1 := 511) dL_law_509 rfl rfl ?_
  refine JX_iconst (v := 1) (pc1 := 512) dL_law_511 (by decide) rfl ?_
  refine JX_iadd (pc1 := 513) dL_law_512 rfl ?_
  refine JX_eqI (y := nI (4 * n + 1)) (nI_add (4 * n) 1) ?_
  refine JX_sld (x := xs (4 * n + 1)) (pc1 := 514) hx hbl (Nat.not_le.mpr hbl) (vp_in_nI (by omega) (by omega)) (by rw [nI_clamp (by omega)]) dL_law_513 rfl ?_
  refine JX_aload_n (i := 3) (q := 2) (pc1 := 515) dL_law_514 rfl rfl rfl ?_
  refine JX_mixBW (ce := 1000 + 300 * n + 1) (sl := 10000 + 5000 * n + 6) (pc1 := 518) (st := []) (As := [.ref a0, .int (xs (4 * n + 1)), .ref x1]) hI mxL_R (lW_restart (a1 := xs (4 * n + 1)) hlz hS hZ.1 hn) wwL_restart wlL_131 rfl ⟨Nat.le_of_ble_eq_true rfl, Nat.le_of_ble_eq_true rfl⟩ ⟨by show 1000 + 300 * n + 1 ≤ 603072; omega, by show 10000 + 5000 * n + 6 ≤ 7219305; omega⟩ (Nat.le_of_ble_eq_true rfl) dL_law_515 rfl rfl rfl (fun o E1 kd1 ad1 rh1 μ1 w8 e8 hp hI1 => ?_)
  obtain ⟨rfl, hS1, hv⟩ := hp
  show JL p l e s m below meth c D tc sa cJ cD x1 x2 adr b Q E1 kd1 ad1 rh1 μr μ1 w8 e8 (1000 + 300 * n + 1) (10000 + 5000 * n + 6) 518 [(5, .int (nI (4 * n))), (4, .ref x2), (3, .ref x1), (2, .ref (adr 0 0)), (1, .ref a0), (0, .ref b)] [.int (nI (zaBack S (xs (4 * n + 1)).toInt).1)]
  refine JX_istore (i := 6) (lv1 := [(6, .int (nI (zaBack S (xs (4 * n + 1)).toInt).1)), (5, .int (nI (4 * n))), (4, .ref x2), (3, .ref x1), (2, .ref (adr 0 0)), (1, .ref a0), (0, .ref b)]) (pc1 := 520) dL_law_518 (by decide) rfl rfl ?_
  refine JX_aload_n (i := 2) (q := 4) (pc1 := 521) dL_law_520 rfl rfl rfl ?_
  refine JX_aload_n (i := 0) (q := 6) (pc1 := 522) dL_law_521 rfl rfl rfl ?_
  refine JX_iload (i := 5) (q := 1) (pc1 := 524) dL_law_522 rfl rfl ?_
  refine JX_iconst (v := 1) (pc1 := 525) dL_law_524 (by decide) rfl ?_
  refine JX_iadd (pc1 := 526) dL_law_525 rfl ?_
  refine JX_eqI (y := nI (4 * n + 1)) (nI_add (4 * n) 1) ?_
  refine JX_sld (x := xs (4 * n + 1)) (pc1 := 527) hx hbl (Nat.not_le.mpr hbl) (vp_in_nI (by omega) (by omega)) (by rw [nI_clamp (by omega)]) dL_law_526 rfl ?_
  obtain ⟨b9, μ9, hM, hc9, hb9, hr9, hZ9⟩ := rC_restart (l := l) (D := D) (tc := tc) (sa := sa) (ad := adr) (a1 := xs (4 * n + 1)) hIR hr hZ hn
  refine JX_mixAM (mc := 0) (ms := 0) (o := some (.int b9)) (μ1 := μ9) (pc1 := 530) (st := []) (st1 := [.int b9]) (ce := 1000 + 300 * n + 1) (sl := 10000 + 5000 * n + 6) hI1 mxL_R (J_hV (st := []) (As := [.int (xs (4 * n + 1))]) (hM) wcX7_restart rfl wlL_133 (mxA_a (by decide)).symm (mxE_a eR0) rfl rfl rfl ⟨Nat.le_of_ble_eq_true rfl, Nat.le_of_ble_eq_true rfl⟩ ⟨by show 1000 + 300 * n + 1 + 0 ≤ 603072; omega, by show 10000 + 5000 * n + 6 + 0 ≤ 7219305; omega⟩ (Nat.le_of_ble_eq_true rfl) dL_law_527) rfl rfl rfl rfl ?_
  refine JX_istore (i := 7) (lv1 := [(7, .int b9), (6, .int (nI (zaBack S (xs (4 * n + 1)).toInt).1)), (5, .int (nI (4 * n))), (4, .ref x2), (3, .ref x1), (2, .ref (adr 0 0)), (1, .ref a0), (0, .ref b)]) (pc1 := 532) dL_law_530 (by decide) rfl rfl ?_
  refine JX_aload_n (i := 2) (q := 5) (pc1 := 533) dL_law_532 rfl rfl rfl ?_
  refine JX_mixAM (mc := 0) (ms := 0) (o := some (.int (μ9 0 0 0))) (μ1 := μ9) (pc1 := 536) (st := []) (st1 := [.int (μ9 0 0 0)]) (ce := 1000 + 300 * n + 1) (sl := 10000 + 5000 * n + 6) hI1 mxL_R (J_hV (st := []) (As := []) (rC_thrown hIR) wcX7_thrown rfl wlL_114 (mxA_a (by decide)).symm (mxE_a eR0) rfl rfl rfl ⟨Nat.le_of_ble_eq_true rfl, Nat.le_of_ble_eq_true rfl⟩ ⟨by show 1000 + 300 * n + 1 + 0 ≤ 603072; omega, by show 10000 + 5000 * n + 6 + 0 ≤ 7219305; omega⟩ (Nat.le_of_ble_eq_true rfl) dL_law_533) rfl rfl rfl rfl ?_
  refine JX_iload (i := 6) (q := 1) (pc1 := 538) dL_law_536 rfl rfl ?_
  refine JX_icmp_eq (tgt := 543) (pc1 := 541) dL_law_538 (by decide) (fun qq => ?_) rfl (fun qq => absurd (th_eq hc9 (Nat.le_trans (zc_Back (S := S) (a := (xs (4 * n + 1)).toInt)) (Nat.le_of_ble_eq_true rfl))) qq)
  refine JX_iload (i := 6) (q := 1) (pc1 := 545) dL_law_543 rfl rfl ?_
  refine JX_if_ne (tgt := 560) (pc1 := 548) dL_law_545 (by decide) (fun qq => ?_) rfl (fun qq => ?_)
  · skip
    refine JX_goto (tgt := 1748) dL_law_560 (by decide) ?_
    exact JX_sub [2, 3, 4, 5, 6, 7] rfl (JX_widen (by omega) (by omega) (hN _ _ _ _ _ _ _ _ _ _ _ _ _ hS1 hr9 hZ9 hI1))
  · skip
    have h0 := th_0 qq (Nat.le_trans (zc_Back (S := S) (a := (xs (4 * n + 1)).toInt)) (Nat.le_of_ble_eq_true rfl))
    obtain ⟨r9, rfl, hr0⟩ := hv h0
    have e9 : r9 = b9 := Int32.toInt_inj.mp (hr0.trans (hb9 h0).symm)
    rw [e9]
    refine JX_aload_n (i := 3) (q := 4) (pc1 := 549) dL_law_548 rfl rfl rfl ?_
    refine JX_iconst (v := 0) (pc1 := 550) dL_law_549 (by decide) rfl ?_
    refine JX_lald (pc1 := 551) dL_law_550 rfl ?_
    refine JX_iload (i := 7) (q := 0) (pc1 := 553) dL_law_551 rfl rfl ?_
    refine JX_i2l (v := (b9).toInt64) (pc1 := 554) dL_law_553 rfl rfl ?_
    refine JX_lcmp (v := 0) (pc1 := 555) dL_law_554 (lg_self _) rfl ?_
    refine JX_if_eq (tgt := 560) (pc1 := 558) dL_law_555 (by decide) (fun qq => ?_) rfl (fun qq => absurd (rfl) qq)
    refine JX_goto (tgt := 1748) dL_law_560 (by decide) ?_
    exact JX_sub [2, 3, 4, 5, 6, 7] rfl (JX_widen (by omega) (by omega) (hN _ _ _ _ _ _ _ _ _ _ _ _ _ hS1 hr9 hZ9 hI1))
theorem lwC_submit (hlz : l.stackTraces = false) (hx : va_X b L xs s s.heap) (hbl : b < s.heap.size) (hL : 4 * n + 4 ≤ L) (hL2 : L ≤ 2048) (hI : gI (mxE gE_R E) (mxA adr ad)) (hS : cSt a0 S sv β len T E kd ad rh μc) (hr : rSt n S sv β len T μr) (hZ : lJ n S sv) (hN : lwN p l e s m below meth c D tc sa cJ cD x1 x2 adr b Q a0 (n + 1) (4 * n)) : JL p l e s m below meth c D tc sa cJ cD x1 x2 adr b Q E kd ad rh μr μc v8 d8 (1000 + 300 * n) (10000 + 5000 * n) 563 [(5, .int (nI (4 * n))), (4, .ref x2), (3, .ref x1), (2, .ref (adr 0 0)), (1, .ref a0), (0, .ref b)] [] := by
  have hn : n ≤ 600 := by omega
  have hIR : gI gE_R adr := gI_mxa mxL_R.1 hI
  refine JX_aload_n (i := 1) (q := 4) (pc1 := 564) dL_law_563 rfl rfl rfl ?_
  refine JX_aload_n (i := 0) (q := 5) (pc1 := 565) dL_law_564 rfl rfl rfl ?_
  refine JX_iload (i := 5) (q := 0) (pc1 := 567) dL_law_565 rfl rfl ?_
  refine JX_iconst (v := 1) (pc1 := 568) dL_law_567 (by decide) rfl ?_
  refine JX_iadd (pc1 := 569) dL_law_568 rfl ?_
  refine JX_eqI (y := nI (4 * n + 1)) (nI_add (4 * n) 1) ?_
  refine JX_sld (x := xs (4 * n + 1)) (pc1 := 570) hx hbl (Nat.not_le.mpr hbl) (vp_in_nI (by omega) (by omega)) (by rw [nI_clamp (by omega)]) dL_law_569 rfl ?_
  refine JX_aload_n (i := 0) (q := 5) (pc1 := 571) dL_law_570 rfl rfl rfl ?_
  refine JX_iload (i := 5) (q := 0) (pc1 := 573) dL_law_571 rfl rfl ?_
  refine JX_iconst (v := 2) (pc1 := 574) dL_law_573 (by decide) rfl ?_
  refine JX_iadd (pc1 := 575) dL_law_574 rfl ?_
  refine JX_eqI (y := nI (4 * n + 2)) (nI_add (4 * n) 2) ?_
  refine JX_sld (x := xs (4 * n + 2)) (pc1 := 576) hx hbl (Nat.not_le.mpr hbl) (vp_in_nI (by omega) (by omega)) (by rw [nI_clamp (by omega)]) dL_law_575 rfl ?_
  refine JX_aload_n (i := 3) (q := 2) (pc1 := 577) dL_law_576 rfl rfl rfl ?_
  refine JX_mixBW (ce := 1000 + 300 * n + 1) (sl := 10000 + 5000 * n + 6) (pc1 := 580) (st := []) (As := [.ref a0, .int (xs (4 * n + 1)), .int (xs (4 * n + 2)), .ref x1]) hI mxL_R (lW_submit (a1 := xs (4 * n + 1)) (a2 := xs (4 * n + 2)) hlz hS hZ.1 hn) wwL_submit wlL_134 rfl ⟨Nat.le_of_ble_eq_true rfl, Nat.le_of_ble_eq_true rfl⟩ ⟨by show 1000 + 300 * n + 1 ≤ 603072; omega, by show 10000 + 5000 * n + 6 ≤ 7219305; omega⟩ (Nat.le_of_ble_eq_true rfl) dL_law_577 rfl rfl rfl (fun o E1 kd1 ad1 rh1 μ1 w8 e8 hp hI1 => ?_)
  obtain ⟨rfl, hS1, hv⟩ := hp
  show JL p l e s m below meth c D tc sa cJ cD x1 x2 adr b Q E1 kd1 ad1 rh1 μr μ1 w8 e8 (1000 + 300 * n + 1) (10000 + 5000 * n + 6) 580 [(5, .int (nI (4 * n))), (4, .ref x2), (3, .ref x1), (2, .ref (adr 0 0)), (1, .ref a0), (0, .ref b)] [.int (nI (zaSub S (xs (4 * n + 1)).toInt (xs (4 * n + 2))).1)]
  refine JX_istore (i := 6) (lv1 := [(6, .int (nI (zaSub S (xs (4 * n + 1)).toInt (xs (4 * n + 2))).1)), (5, .int (nI (4 * n))), (4, .ref x2), (3, .ref x1), (2, .ref (adr 0 0)), (1, .ref a0), (0, .ref b)]) (pc1 := 582) dL_law_580 (by decide) rfl rfl ?_
  refine JX_aload_n (i := 2) (q := 4) (pc1 := 583) dL_law_582 rfl rfl rfl ?_
  refine JX_aload_n (i := 0) (q := 6) (pc1 := 584) dL_law_583 rfl rfl rfl ?_
  refine JX_iload (i := 5) (q := 1) (pc1 := 586) dL_law_584 rfl rfl ?_
  refine JX_iconst (v := 1) (pc1 := 587) dL_law_586 (by decide) rfl ?_
  refine JX_iadd (pc1 := 588) dL_law_587 rfl ?_
  refine JX_eqI (y := nI (4 * n + 1)) (nI_add (4 * n) 1) ?_
  refine JX_sld (x := xs (4 * n + 1)) (pc1 := 589) hx hbl (Nat.not_le.mpr hbl) (vp_in_nI (by omega) (by omega)) (by rw [nI_clamp (by omega)]) dL_law_588 rfl ?_
  refine JX_aload_n (i := 0) (q := 6) (pc1 := 590) dL_law_589 rfl rfl rfl ?_
  refine JX_iload (i := 5) (q := 1) (pc1 := 592) dL_law_590 rfl rfl ?_
  refine JX_iconst (v := 2) (pc1 := 593) dL_law_592 (by decide) rfl ?_
  refine JX_iadd (pc1 := 594) dL_law_593 rfl ?_
  refine JX_eqI (y := nI (4 * n + 2)) (nI_add (4 * n) 2) ?_
  refine JX_sld (x := xs (4 * n + 2)) (pc1 := 595) hx hbl (Nat.not_le.mpr hbl) (vp_in_nI (by omega) (by omega)) (by rw [nI_clamp (by omega)]) dL_law_594 rfl ?_
  obtain ⟨b9, μ9, hM, hc9, hb9, hr9, hZ9⟩ := rC_submit (l := l) (D := D) (tc := tc) (sa := sa) (ad := adr) (a1 := xs (4 * n + 1)) (a2 := xs (4 * n + 2)) hIR hr hZ hn
  refine JX_mixAM (mc := 0) (ms := 0) (o := some (.int b9)) (μ1 := μ9) (pc1 := 598) (st := []) (st1 := [.int b9]) (ce := 1000 + 300 * n + 1) (sl := 10000 + 5000 * n + 6) hI1 mxL_R (J_hV (st := []) (As := [.int (xs (4 * n + 1)), .int (xs (4 * n + 2))]) (hM) wcX7_submit rfl wlL_136 (mxA_a (by decide)).symm (mxE_a eR0) rfl rfl rfl ⟨Nat.le_of_ble_eq_true rfl, Nat.le_of_ble_eq_true rfl⟩ ⟨by show 1000 + 300 * n + 1 + 0 ≤ 603072; omega, by show 10000 + 5000 * n + 6 + 0 ≤ 7219305; omega⟩ (Nat.le_of_ble_eq_true rfl) dL_law_595) rfl rfl rfl rfl ?_
  refine JX_istore (i := 7) (lv1 := [(7, .int b9), (6, .int (nI (zaSub S (xs (4 * n + 1)).toInt (xs (4 * n + 2))).1)), (5, .int (nI (4 * n))), (4, .ref x2), (3, .ref x1), (2, .ref (adr 0 0)), (1, .ref a0), (0, .ref b)]) (pc1 := 600) dL_law_598 (by decide) rfl rfl ?_
  refine JX_aload_n (i := 2) (q := 5) (pc1 := 601) dL_law_600 rfl rfl rfl ?_
  refine JX_mixAM (mc := 0) (ms := 0) (o := some (.int (μ9 0 0 0))) (μ1 := μ9) (pc1 := 604) (st := []) (st1 := [.int (μ9 0 0 0)]) (ce := 1000 + 300 * n + 1) (sl := 10000 + 5000 * n + 6) hI1 mxL_R (J_hV (st := []) (As := []) (rC_thrown hIR) wcX7_thrown rfl wlL_114 (mxA_a (by decide)).symm (mxE_a eR0) rfl rfl rfl ⟨Nat.le_of_ble_eq_true rfl, Nat.le_of_ble_eq_true rfl⟩ ⟨by show 1000 + 300 * n + 1 + 0 ≤ 603072; omega, by show 10000 + 5000 * n + 6 + 0 ≤ 7219305; omega⟩ (Nat.le_of_ble_eq_true rfl) dL_law_601) rfl rfl rfl rfl ?_
  refine JX_iload (i := 6) (q := 1) (pc1 := 606) dL_law_604 rfl rfl ?_
  refine JX_icmp_eq (tgt := 611) (pc1 := 609) dL_law_606 (by decide) (fun qq => ?_) rfl (fun qq => absurd (th_eq hc9 (Nat.le_trans (zc_Sub (S := S) (a := (xs (4 * n + 1)).toInt) (v := (xs (4 * n + 2)))) (Nat.le_of_ble_eq_true rfl))) qq)
  refine JX_iload (i := 6) (q := 1) (pc1 := 613) dL_law_611 rfl rfl ?_
  refine JX_if_ne (tgt := 628) (pc1 := 616) dL_law_613 (by decide) (fun qq => ?_) rfl (fun qq => ?_)
  · skip
    refine JX_goto (tgt := 1748) dL_law_628 (by decide) ?_
    exact JX_sub [2, 3, 4, 5, 6, 7] rfl (JX_widen (by omega) (by omega) (hN _ _ _ _ _ _ _ _ _ _ _ _ _ hS1 hr9 hZ9 hI1))
  · skip
    have h0 := th_0 qq (Nat.le_trans (zc_Sub (S := S) (a := (xs (4 * n + 1)).toInt) (v := (xs (4 * n + 2)))) (Nat.le_of_ble_eq_true rfl))
    obtain ⟨r9, rfl, hr0⟩ := hv h0
    have e9 : r9 = b9 := Int32.toInt_inj.mp (hr0.trans (hb9 h0).symm)
    rw [e9]
    refine JX_aload_n (i := 3) (q := 4) (pc1 := 617) dL_law_616 rfl rfl rfl ?_
    refine JX_iconst (v := 0) (pc1 := 618) dL_law_617 (by decide) rfl ?_
    refine JX_lald (pc1 := 619) dL_law_618 rfl ?_
    refine JX_iload (i := 7) (q := 0) (pc1 := 621) dL_law_619 rfl rfl ?_
    refine JX_i2l (v := (b9).toInt64) (pc1 := 622) dL_law_621 rfl rfl ?_
    refine JX_lcmp (v := 0) (pc1 := 623) dL_law_622 (lg_self _) rfl ?_
    refine JX_if_eq (tgt := 628) (pc1 := 626) dL_law_623 (by decide) (fun qq => ?_) rfl (fun qq => absurd (rfl) qq)
    refine JX_goto (tgt := 1748) dL_law_628 (by decide) ?_
    exact JX_sub [2, 3, 4, 5, 6, 7] rfl (JX_widen (by omega) (by omega) (hN _ _ _ _ _ _ _ _ _ _ _ _ _ hS1 hr9 hZ9 hI1))
theorem lwC_reconfigure (hlz : l.stackTraces = false) (hx : va_X b L xs s s.heap) (hbl : b < s.heap.size) (hL : 4 * n + 4 ≤ L) (hL2 : L ≤ 2048) (hI : gI (mxE gE_R E) (mxA adr ad)) (hS : cSt a0 S sv β len T E kd ad rh μc) (hr : rSt n S sv β len T μr) (hZ : lJ n S sv) (hN : lwN p l e s m below meth c D tc sa cJ cD x1 x2 adr b Q a0 (n + 1) (4 * n)) : JL p l e s m below meth c D tc sa cJ cD x1 x2 adr b Q E kd ad rh μr μc v8 d8 (1000 + 300 * n) (10000 + 5000 * n) 631 [(5, .int (nI (4 * n))), (4, .ref x2), (3, .ref x1), (2, .ref (adr 0 0)), (1, .ref a0), (0, .ref b)] [] := by
  have hn : n ≤ 600 := by omega
  have hIR : gI gE_R adr := gI_mxa mxL_R.1 hI
  refine JX_aload_n (i := 1) (q := 4) (pc1 := 632) dL_law_631 rfl rfl rfl ?_
  refine JX_aload_n (i := 0) (q := 5) (pc1 := 633) dL_law_632 rfl rfl rfl ?_
  refine JX_iload (i := 5) (q := 0) (pc1 := 635) dL_law_633 rfl rfl ?_
  refine JX_iconst (v := 1) (pc1 := 636) dL_law_635 (by decide) rfl ?_
  refine JX_iadd (pc1 := 637) dL_law_636 rfl ?_
  refine JX_eqI (y := nI (4 * n + 1)) (nI_add (4 * n) 1) ?_
  refine JX_sld (x := xs (4 * n + 1)) (pc1 := 638) hx hbl (Nat.not_le.mpr hbl) (vp_in_nI (by omega) (by omega)) (by rw [nI_clamp (by omega)]) dL_law_637 rfl ?_
  refine JX_aload_n (i := 0) (q := 5) (pc1 := 639) dL_law_638 rfl rfl rfl ?_
  refine JX_iload (i := 5) (q := 0) (pc1 := 641) dL_law_639 rfl rfl ?_
  refine JX_iconst (v := 2) (pc1 := 642) dL_law_641 (by decide) rfl ?_
  refine JX_iadd (pc1 := 643) dL_law_642 rfl ?_
  refine JX_eqI (y := nI (4 * n + 2)) (nI_add (4 * n) 2) ?_
  refine JX_sld (x := xs (4 * n + 2)) (pc1 := 644) hx hbl (Nat.not_le.mpr hbl) (vp_in_nI (by omega) (by omega)) (by rw [nI_clamp (by omega)]) dL_law_643 rfl ?_
  refine JX_aload_n (i := 3) (q := 2) (pc1 := 645) dL_law_644 rfl rfl rfl ?_
  refine JX_mixBW (ce := 1000 + 300 * n + 1) (sl := 10000 + 5000 * n + 6) (pc1 := 648) (st := []) (As := [.ref a0, .int (xs (4 * n + 1)), .int (xs (4 * n + 2)), .ref x1]) hI mxL_R (lW_reconfigure (a1 := xs (4 * n + 1)) (a2 := xs (4 * n + 2)) hlz hS hZ.1 hn) wwL_reconfigure wlL_137 rfl ⟨Nat.le_of_ble_eq_true rfl, Nat.le_of_ble_eq_true rfl⟩ ⟨by show 1000 + 300 * n + 1 ≤ 603072; omega, by show 10000 + 5000 * n + 6 ≤ 7219305; omega⟩ (Nat.le_of_ble_eq_true rfl) dL_law_645 rfl rfl rfl (fun o E1 kd1 ad1 rh1 μ1 w8 e8 hp hI1 => ?_)
  obtain ⟨rfl, hS1, hv⟩ := hp
  show JL p l e s m below meth c D tc sa cJ cD x1 x2 adr b Q E1 kd1 ad1 rh1 μr μ1 w8 e8 (1000 + 300 * n + 1) (10000 + 5000 * n + 6) 648 [(5, .int (nI (4 * n))), (4, .ref x2), (3, .ref x1), (2, .ref (adr 0 0)), (1, .ref a0), (0, .ref b)] [.int (nI (zaConf S (xs (4 * n + 1)).toInt (xs (4 * n + 2)).toInt).1)]
  refine JX_istore (i := 6) (lv1 := [(6, .int (nI (zaConf S (xs (4 * n + 1)).toInt (xs (4 * n + 2)).toInt).1)), (5, .int (nI (4 * n))), (4, .ref x2), (3, .ref x1), (2, .ref (adr 0 0)), (1, .ref a0), (0, .ref b)]) (pc1 := 650) dL_law_648 (by decide) rfl rfl ?_
  refine JX_aload_n (i := 2) (q := 4) (pc1 := 651) dL_law_650 rfl rfl rfl ?_
  refine JX_aload_n (i := 0) (q := 6) (pc1 := 652) dL_law_651 rfl rfl rfl ?_
  refine JX_iload (i := 5) (q := 1) (pc1 := 654) dL_law_652 rfl rfl ?_
  refine JX_iconst (v := 1) (pc1 := 655) dL_law_654 (by decide) rfl ?_
  refine JX_iadd (pc1 := 656) dL_law_655 rfl ?_
  refine JX_eqI (y := nI (4 * n + 1)) (nI_add (4 * n) 1) ?_
  refine JX_sld (x := xs (4 * n + 1)) (pc1 := 657) hx hbl (Nat.not_le.mpr hbl) (vp_in_nI (by omega) (by omega)) (by rw [nI_clamp (by omega)]) dL_law_656 rfl ?_
  refine JX_aload_n (i := 0) (q := 6) (pc1 := 658) dL_law_657 rfl rfl rfl ?_
  refine JX_iload (i := 5) (q := 1) (pc1 := 660) dL_law_658 rfl rfl ?_
  refine JX_iconst (v := 2) (pc1 := 661) dL_law_660 (by decide) rfl ?_
  refine JX_iadd (pc1 := 662) dL_law_661 rfl ?_
  refine JX_eqI (y := nI (4 * n + 2)) (nI_add (4 * n) 2) ?_
  refine JX_sld (x := xs (4 * n + 2)) (pc1 := 663) hx hbl (Nat.not_le.mpr hbl) (vp_in_nI (by omega) (by omega)) (by rw [nI_clamp (by omega)]) dL_law_662 rfl ?_
  obtain ⟨b9, μ9, hM, hc9, hb9, hr9, hZ9⟩ := rC_reconfigure (l := l) (D := D) (tc := tc) (sa := sa) (ad := adr) (a1 := xs (4 * n + 1)) (a2 := xs (4 * n + 2)) hIR hr hZ hn
  refine JX_mixAM (mc := 0) (ms := 0) (o := some (.int b9)) (μ1 := μ9) (pc1 := 666) (st := []) (st1 := [.int b9]) (ce := 1000 + 300 * n + 1) (sl := 10000 + 5000 * n + 6) hI1 mxL_R (J_hV (st := []) (As := [.int (xs (4 * n + 1)), .int (xs (4 * n + 2))]) (hM) wcX7_reconfigure rfl wlL_139 (mxA_a (by decide)).symm (mxE_a eR0) rfl rfl rfl ⟨Nat.le_of_ble_eq_true rfl, Nat.le_of_ble_eq_true rfl⟩ ⟨by show 1000 + 300 * n + 1 + 0 ≤ 603072; omega, by show 10000 + 5000 * n + 6 + 0 ≤ 7219305; omega⟩ (Nat.le_of_ble_eq_true rfl) dL_law_663) rfl rfl rfl rfl ?_
  refine JX_istore (i := 7) (lv1 := [(7, .int b9), (6, .int (nI (zaConf S (xs (4 * n + 1)).toInt (xs (4 * n + 2)).toInt).1)), (5, .int (nI (4 * n))), (4, .ref x2), (3, .ref x1), (2, .ref (adr 0 0)), (1, .ref a0), (0, .ref b)]) (pc1 := 668) dL_law_666 (by decide) rfl rfl ?_
  refine JX_aload_n (i := 2) (q := 5) (pc1 := 669) dL_law_668 rfl rfl rfl ?_
  refine JX_mixAM (mc := 0) (ms := 0) (o := some (.int (μ9 0 0 0))) (μ1 := μ9) (pc1 := 672) (st := []) (st1 := [.int (μ9 0 0 0)]) (ce := 1000 + 300 * n + 1) (sl := 10000 + 5000 * n + 6) hI1 mxL_R (J_hV (st := []) (As := []) (rC_thrown hIR) wcX7_thrown rfl wlL_114 (mxA_a (by decide)).symm (mxE_a eR0) rfl rfl rfl ⟨Nat.le_of_ble_eq_true rfl, Nat.le_of_ble_eq_true rfl⟩ ⟨by show 1000 + 300 * n + 1 + 0 ≤ 603072; omega, by show 10000 + 5000 * n + 6 + 0 ≤ 7219305; omega⟩ (Nat.le_of_ble_eq_true rfl) dL_law_669) rfl rfl rfl rfl ?_
  refine JX_iload (i := 6) (q := 1) (pc1 := 674) dL_law_672 rfl rfl ?_
  refine JX_icmp_eq (tgt := 679) (pc1 := 677) dL_law_674 (by decide) (fun qq => ?_) rfl (fun qq => absurd (th_eq hc9 (Nat.le_trans (zc_Conf (S := S) (a := (xs (4 * n + 1)).toInt) (g := (xs (4 * n + 2)).toInt)) (Nat.le_of_ble_eq_true rfl))) qq)
  refine JX_iload (i := 6) (q := 1) (pc1 := 681) dL_law_679 rfl rfl ?_
  refine JX_if_ne (tgt := 696) (pc1 := 684) dL_law_681 (by decide) (fun qq => ?_) rfl (fun qq => ?_)
  · skip
    refine JX_goto (tgt := 1748) dL_law_696 (by decide) ?_
    exact JX_sub [2, 3, 4, 5, 6, 7] rfl (JX_widen (by omega) (by omega) (hN _ _ _ _ _ _ _ _ _ _ _ _ _ hS1 hr9 hZ9 hI1))
  · skip
    have h0 := th_0 qq (Nat.le_trans (zc_Conf (S := S) (a := (xs (4 * n + 1)).toInt) (g := (xs (4 * n + 2)).toInt)) (Nat.le_of_ble_eq_true rfl))
    obtain ⟨r9, rfl, hr0⟩ := hv h0
    have e9 : r9 = b9 := Int32.toInt_inj.mp (hr0.trans (hb9 h0).symm)
    rw [e9]
    refine JX_aload_n (i := 3) (q := 4) (pc1 := 685) dL_law_684 rfl rfl rfl ?_
    refine JX_iconst (v := 0) (pc1 := 686) dL_law_685 (by decide) rfl ?_
    refine JX_lald (pc1 := 687) dL_law_686 rfl ?_
    refine JX_iload (i := 7) (q := 0) (pc1 := 689) dL_law_687 rfl rfl ?_
    refine JX_i2l (v := (b9).toInt64) (pc1 := 690) dL_law_689 rfl rfl ?_
    refine JX_lcmp (v := 0) (pc1 := 691) dL_law_690 (lg_self _) rfl ?_
    refine JX_if_eq (tgt := 696) (pc1 := 694) dL_law_691 (by decide) (fun qq => ?_) rfl (fun qq => absurd (rfl) qq)
    refine JX_goto (tgt := 1748) dL_law_696 (by decide) ?_
    exact JX_sub [2, 3, 4, 5, 6, 7] rfl (JX_widen (by omega) (by omega) (hN _ _ _ _ _ _ _ _ _ _ _ _ _ hS1 hr9 hZ9 hI1))
theorem lwC_pack (hlz : l.stackTraces = false) (hx : va_X b L xs s s.heap) (hbl : b < s.heap.size) (hL : 4 * n + 4 ≤ L) (hL2 : L ≤ 2048) (hI : gI (mxE gE_R E) (mxA adr ad)) (hS : cSt a0 S sv β len T E kd ad rh μc) (hr : rSt n S sv β len T μr) (hZ : lJ n S sv) (hN : lwN p l e s m below meth c D tc sa cJ cD x1 x2 adr b Q a0 (n + 1) (4 * n)) : JL p l e s m below meth c D tc sa cJ cD x1 x2 adr b Q E kd ad rh μr μc v8 d8 (1000 + 300 * n) (10000 + 5000 * n) 699 [(5, .int (nI (4 * n))), (4, .ref x2), (3, .ref x1), (2, .ref (adr 0 0)), (1, .ref a0), (0, .ref b)] [] := by
  have hn : n ≤ 600 := by omega
  have hIR : gI gE_R adr := gI_mxa mxL_R.1 hI
  refine JX_aload_n (i := 1) (q := 4) (pc1 := 700) dL_law_699 rfl rfl rfl ?_
  refine JX_aload_n (i := 0) (q := 5) (pc1 := 701) dL_law_700 rfl rfl rfl ?_
  refine JX_iload (i := 5) (q := 0) (pc1 := 703) dL_law_701 rfl rfl ?_
  refine JX_iconst (v := 1) (pc1 := 704) dL_law_703 (by decide) rfl ?_
  refine JX_iadd (pc1 := 705) dL_law_704 rfl ?_
  refine JX_eqI (y := nI (4 * n + 1)) (nI_add (4 * n) 1) ?_
  refine JX_sld (x := xs (4 * n + 1)) (pc1 := 706) hx hbl (Nat.not_le.mpr hbl) (vp_in_nI (by omega) (by omega)) (by rw [nI_clamp (by omega)]) dL_law_705 rfl ?_
  refine JX_aload_n (i := 3) (q := 2) (pc1 := 707) dL_law_706 rfl rfl rfl ?_
  refine JX_mixBW (ce := 1000 + 300 * n + 1) (sl := 10000 + 5000 * n + 6) (pc1 := 710) (st := []) (As := [.ref a0, .int (xs (4 * n + 1)), .ref x1]) hI mxL_R (lW_pack (a1 := xs (4 * n + 1)) hlz hS hZ.1 hn) wwL_pack wlL_140 rfl ⟨Nat.le_of_ble_eq_true rfl, Nat.le_of_ble_eq_true rfl⟩ ⟨by show 1000 + 300 * n + 1 ≤ 603072; omega, by show 10000 + 5000 * n + 6 ≤ 7219305; omega⟩ (Nat.le_of_ble_eq_true rfl) dL_law_707 rfl rfl rfl (fun o E1 kd1 ad1 rh1 μ1 w8 e8 hp hI1 => ?_)
  obtain ⟨rfl, hS1, hv⟩ := hp
  show JL p l e s m below meth c D tc sa cJ cD x1 x2 adr b Q E1 kd1 ad1 rh1 μr μ1 w8 e8 (1000 + 300 * n + 1) (10000 + 5000 * n + 6) 710 [(5, .int (nI (4 * n))), (4, .ref x2), (3, .ref x1), (2, .ref (adr 0 0)), (1, .ref a0), (0, .ref b)] [.int (nI (zaPack S (xs (4 * n + 1)).toInt).1)]
  refine JX_istore (i := 6) (lv1 := [(6, .int (nI (zaPack S (xs (4 * n + 1)).toInt).1)), (5, .int (nI (4 * n))), (4, .ref x2), (3, .ref x1), (2, .ref (adr 0 0)), (1, .ref a0), (0, .ref b)]) (pc1 := 712) dL_law_710 (by decide) rfl rfl ?_
  refine JX_aload_n (i := 2) (q := 4) (pc1 := 713) dL_law_712 rfl rfl rfl ?_
  refine JX_aload_n (i := 0) (q := 6) (pc1 := 714) dL_law_713 rfl rfl rfl ?_
  refine JX_iload (i := 5) (q := 1) (pc1 := 716) dL_law_714 rfl rfl ?_
  refine JX_iconst (v := 1) (pc1 := 717) dL_law_716 (by decide) rfl ?_
  refine JX_iadd (pc1 := 718) dL_law_717 rfl ?_
  refine JX_eqI (y := nI (4 * n + 1)) (nI_add (4 * n) 1) ?_
  refine JX_sld (x := xs (4 * n + 1)) (pc1 := 719) hx hbl (Nat.not_le.mpr hbl) (vp_in_nI (by omega) (by omega)) (by rw [nI_clamp (by omega)]) dL_law_718 rfl ?_
  obtain ⟨b9, μ9, hM, hc9, hb9, hr9, hZ9⟩ := rC_pack (l := l) (D := D) (tc := tc) (sa := sa) (ad := adr) (a1 := xs (4 * n + 1)) hIR hr hZ hn
  refine JX_mixAM (mc := 0) (ms := 0) (o := some (.int b9)) (μ1 := μ9) (pc1 := 722) (st := []) (st1 := [.int b9]) (ce := 1000 + 300 * n + 1) (sl := 10000 + 5000 * n + 6) hI1 mxL_R (J_hV (st := []) (As := [.int (xs (4 * n + 1))]) (hM) wcX7_pack rfl wlL_142 (mxA_a (by decide)).symm (mxE_a eR0) rfl rfl rfl ⟨Nat.le_of_ble_eq_true rfl, Nat.le_of_ble_eq_true rfl⟩ ⟨by show 1000 + 300 * n + 1 + 0 ≤ 603072; omega, by show 10000 + 5000 * n + 6 + 0 ≤ 7219305; omega⟩ (Nat.le_of_ble_eq_true rfl) dL_law_719) rfl rfl rfl rfl ?_
  refine JX_istore (i := 7) (lv1 := [(7, .int b9), (6, .int (nI (zaPack S (xs (4 * n + 1)).toInt).1)), (5, .int (nI (4 * n))), (4, .ref x2), (3, .ref x1), (2, .ref (adr 0 0)), (1, .ref a0), (0, .ref b)]) (pc1 := 724) dL_law_722 (by decide) rfl rfl ?_
  refine JX_aload_n (i := 2) (q := 5) (pc1 := 725) dL_law_724 rfl rfl rfl ?_
  refine JX_mixAM (mc := 0) (ms := 0) (o := some (.int (μ9 0 0 0))) (μ1 := μ9) (pc1 := 728) (st := []) (st1 := [.int (μ9 0 0 0)]) (ce := 1000 + 300 * n + 1) (sl := 10000 + 5000 * n + 6) hI1 mxL_R (J_hV (st := []) (As := []) (rC_thrown hIR) wcX7_thrown rfl wlL_114 (mxA_a (by decide)).symm (mxE_a eR0) rfl rfl rfl ⟨Nat.le_of_ble_eq_true rfl, Nat.le_of_ble_eq_true rfl⟩ ⟨by show 1000 + 300 * n + 1 + 0 ≤ 603072; omega, by show 10000 + 5000 * n + 6 + 0 ≤ 7219305; omega⟩ (Nat.le_of_ble_eq_true rfl) dL_law_725) rfl rfl rfl rfl ?_
  refine JX_iload (i := 6) (q := 1) (pc1 := 730) dL_law_728 rfl rfl ?_
  refine JX_icmp_eq (tgt := 735) (pc1 := 733) dL_law_730 (by decide) (fun qq => ?_) rfl (fun qq => absurd (th_eq hc9 (Nat.le_trans (zc_Pack (S := S) (a := (xs (4 * n + 1)).toInt)) (Nat.le_of_ble_eq_true rfl))) qq)
  refine JX_iload (i := 6) (q := 1) (pc1 := 737) dL_law_735 rfl rfl ?_
  refine JX_if_ne (tgt := 752) (pc1 := 740) dL_law_737 (by decide) (fun qq => ?_) rfl (fun qq => ?_)
  · skip
    refine JX_goto (tgt := 1748) dL_law_752 (by decide) ?_
    exact JX_sub [2, 3, 4, 5, 6, 7] rfl (JX_widen (by omega) (by omega) (hN _ _ _ _ _ _ _ _ _ _ _ _ _ hS1 hr9 hZ9 hI1))
  · skip
    have h0 := th_0 qq (Nat.le_trans (zc_Pack (S := S) (a := (xs (4 * n + 1)).toInt)) (Nat.le_of_ble_eq_true rfl))
    obtain ⟨r9, rfl, hr0⟩ := hv h0
    have e9 : r9 = b9 := Int32.toInt_inj.mp (hr0.trans (hb9 h0).symm)
    rw [e9]
    refine JX_aload_n (i := 3) (q := 4) (pc1 := 741) dL_law_740 rfl rfl rfl ?_
    refine JX_iconst (v := 0) (pc1 := 742) dL_law_741 (by decide) rfl ?_
    refine JX_lald (pc1 := 743) dL_law_742 rfl ?_
    refine JX_iload (i := 7) (q := 0) (pc1 := 745) dL_law_743 rfl rfl ?_
    refine JX_i2l (v := (b9).toInt64) (pc1 := 746) dL_law_745 rfl rfl ?_
    refine JX_lcmp (v := 0) (pc1 := 747) dL_law_746 (lg_self _) rfl ?_
    refine JX_if_eq (tgt := 752) (pc1 := 750) dL_law_747 (by decide) (fun qq => ?_) rfl (fun qq => absurd (rfl) qq)
    refine JX_goto (tgt := 1748) dL_law_752 (by decide) ?_
    exact JX_sub [2, 3, 4, 5, 6, 7] rfl (JX_widen (by omega) (by omega) (hN _ _ _ _ _ _ _ _ _ _ _ _ _ hS1 hr9 hZ9 hI1))
theorem lwC_read (hlz : l.stackTraces = false) (hx : va_X b L xs s s.heap) (hbl : b < s.heap.size) (hL : 4 * n + 4 ≤ L) (hL2 : L ≤ 2048) (hI : gI (mxE gE_R E) (mxA adr ad)) (hS : cSt a0 S sv β len T E kd ad rh μc) (hr : rSt n S sv β len T μr) (hZ : lJ n S sv) (hN : lwN p l e s m below meth c D tc sa cJ cD x1 x2 adr b Q a0 (n + 1) (4 * n)) : JL p l e s m below meth c D tc sa cJ cD x1 x2 adr b Q E kd ad rh μr μc v8 d8 (1000 + 300 * n) (10000 + 5000 * n) 755 [(5, .int (nI (4 * n))), (4, .ref x2), (3, .ref x1), (2, .ref (adr 0 0)), (1, .ref a0), (0, .ref b)] [] := by
  have hn : n ≤ 600 := by omega
  have hIR : gI gE_R adr := gI_mxa mxL_R.1 hI
  refine JX_aload_n (i := 1) (q := 4) (pc1 := 756) dL_law_755 rfl rfl rfl ?_
  refine JX_aload_n (i := 0) (q := 5) (pc1 := 757) dL_law_756 rfl rfl rfl ?_
  refine JX_iload (i := 5) (q := 0) (pc1 := 759) dL_law_757 rfl rfl ?_
  refine JX_iconst (v := 1) (pc1 := 760) dL_law_759 (by decide) rfl ?_
  refine JX_iadd (pc1 := 761) dL_law_760 rfl ?_
  refine JX_eqI (y := nI (4 * n + 1)) (nI_add (4 * n) 1) ?_
  refine JX_sld (x := xs (4 * n + 1)) (pc1 := 762) hx hbl (Nat.not_le.mpr hbl) (vp_in_nI (by omega) (by omega)) (by rw [nI_clamp (by omega)]) dL_law_761 rfl ?_
  refine JX_aload_n (i := 3) (q := 2) (pc1 := 763) dL_law_762 rfl rfl rfl ?_
  refine JX_mixBW (ce := 1000 + 300 * n + 1) (sl := 10000 + 5000 * n + 6) (pc1 := 766) (st := []) (As := [.ref a0, .int (xs (4 * n + 1)), .ref x1]) hI mxL_R (lW_read (a1 := xs (4 * n + 1)) hlz hS hZ.1 hn) wwL_read wlL_143 rfl ⟨Nat.le_of_ble_eq_true rfl, Nat.le_of_ble_eq_true rfl⟩ ⟨by show 1000 + 300 * n + 1 ≤ 603072; omega, by show 10000 + 5000 * n + 6 ≤ 7219305; omega⟩ (Nat.le_of_ble_eq_true rfl) dL_law_763 rfl rfl rfl (fun o E1 kd1 ad1 rh1 μ1 w8 e8 hp hI1 => ?_)
  obtain ⟨rfl, hS1, hv⟩ := hp
  show JL p l e s m below meth c D tc sa cJ cD x1 x2 adr b Q E1 kd1 ad1 rh1 μr μ1 w8 e8 (1000 + 300 * n + 1) (10000 + 5000 * n + 6) 766 [(5, .int (nI (4 * n))), (4, .ref x2), (3, .ref x1), (2, .ref (adr 0 0)), (1, .ref a0), (0, .ref b)] [.int (nI (zaRead S (xs (4 * n + 1)).toInt).1)]
  refine JX_istore (i := 6) (lv1 := [(6, .int (nI (zaRead S (xs (4 * n + 1)).toInt).1)), (5, .int (nI (4 * n))), (4, .ref x2), (3, .ref x1), (2, .ref (adr 0 0)), (1, .ref a0), (0, .ref b)]) (pc1 := 768) dL_law_766 (by decide) rfl rfl ?_
  refine JX_aload_n (i := 2) (q := 4) (pc1 := 769) dL_law_768 rfl rfl rfl ?_
  refine JX_aload_n (i := 0) (q := 6) (pc1 := 770) dL_law_769 rfl rfl rfl ?_
  refine JX_iload (i := 5) (q := 1) (pc1 := 772) dL_law_770 rfl rfl ?_
  refine JX_iconst (v := 1) (pc1 := 773) dL_law_772 (by decide) rfl ?_
  refine JX_iadd (pc1 := 774) dL_law_773 rfl ?_
  refine JX_eqI (y := nI (4 * n + 1)) (nI_add (4 * n) 1) ?_
  refine JX_sld (x := xs (4 * n + 1)) (pc1 := 775) hx hbl (Nat.not_le.mpr hbl) (vp_in_nI (by omega) (by omega)) (by rw [nI_clamp (by omega)]) dL_law_774 rfl ?_
  obtain ⟨b9, μ9, hM, hc9, hb9, hr9, hZ9⟩ := rC_read (l := l) (D := D) (tc := tc) (sa := sa) (ad := adr) (a1 := xs (4 * n + 1)) hIR hr hZ hn
  refine JX_mixAM (mc := 0) (ms := 0) (o := some (.int b9)) (μ1 := μ9) (pc1 := 778) (st := []) (st1 := [.int b9]) (ce := 1000 + 300 * n + 1) (sl := 10000 + 5000 * n + 6) hI1 mxL_R (J_hV (st := []) (As := [.int (xs (4 * n + 1))]) (hM) wcX7_read rfl wlL_145 (mxA_a (by decide)).symm (mxE_a eR0) rfl rfl rfl ⟨Nat.le_of_ble_eq_true rfl, Nat.le_of_ble_eq_true rfl⟩ ⟨by show 1000 + 300 * n + 1 + 0 ≤ 603072; omega, by show 10000 + 5000 * n + 6 + 0 ≤ 7219305; omega⟩ (Nat.le_of_ble_eq_true rfl) dL_law_775) rfl rfl rfl rfl ?_
  refine JX_istore (i := 7) (lv1 := [(7, .int b9), (6, .int (nI (zaRead S (xs (4 * n + 1)).toInt).1)), (5, .int (nI (4 * n))), (4, .ref x2), (3, .ref x1), (2, .ref (adr 0 0)), (1, .ref a0), (0, .ref b)]) (pc1 := 780) dL_law_778 (by decide) rfl rfl ?_
  refine JX_aload_n (i := 2) (q := 5) (pc1 := 781) dL_law_780 rfl rfl rfl ?_
  refine JX_mixAM (mc := 0) (ms := 0) (o := some (.int (μ9 0 0 0))) (μ1 := μ9) (pc1 := 784) (st := []) (st1 := [.int (μ9 0 0 0)]) (ce := 1000 + 300 * n + 1) (sl := 10000 + 5000 * n + 6) hI1 mxL_R (J_hV (st := []) (As := []) (rC_thrown hIR) wcX7_thrown rfl wlL_114 (mxA_a (by decide)).symm (mxE_a eR0) rfl rfl rfl ⟨Nat.le_of_ble_eq_true rfl, Nat.le_of_ble_eq_true rfl⟩ ⟨by show 1000 + 300 * n + 1 + 0 ≤ 603072; omega, by show 10000 + 5000 * n + 6 + 0 ≤ 7219305; omega⟩ (Nat.le_of_ble_eq_true rfl) dL_law_781) rfl rfl rfl rfl ?_
  refine JX_iload (i := 6) (q := 1) (pc1 := 786) dL_law_784 rfl rfl ?_
  refine JX_icmp_eq (tgt := 791) (pc1 := 789) dL_law_786 (by decide) (fun qq => ?_) rfl (fun qq => absurd (th_eq hc9 (Nat.le_trans (zc_Read (S := S) (a := (xs (4 * n + 1)).toInt)) (Nat.le_of_ble_eq_true rfl))) qq)
  refine JX_iload (i := 6) (q := 1) (pc1 := 793) dL_law_791 rfl rfl ?_
  refine JX_if_ne (tgt := 808) (pc1 := 796) dL_law_793 (by decide) (fun qq => ?_) rfl (fun qq => ?_)
  · skip
    refine JX_goto (tgt := 1748) dL_law_808 (by decide) ?_
    exact JX_sub [2, 3, 4, 5, 6, 7] rfl (JX_widen (by omega) (by omega) (hN _ _ _ _ _ _ _ _ _ _ _ _ _ hS1 hr9 hZ9 hI1))
  · skip
    have h0 := th_0 qq (Nat.le_trans (zc_Read (S := S) (a := (xs (4 * n + 1)).toInt)) (Nat.le_of_ble_eq_true rfl))
    obtain ⟨r9, rfl, hr0⟩ := hv h0
    have e9 : r9 = b9 := Int32.toInt_inj.mp (hr0.trans (hb9 h0).symm)
    rw [e9]
    refine JX_aload_n (i := 3) (q := 4) (pc1 := 797) dL_law_796 rfl rfl rfl ?_
    refine JX_iconst (v := 0) (pc1 := 798) dL_law_797 (by decide) rfl ?_
    refine JX_lald (pc1 := 799) dL_law_798 rfl ?_
    refine JX_iload (i := 7) (q := 0) (pc1 := 801) dL_law_799 rfl rfl ?_
    refine JX_i2l (v := (b9).toInt64) (pc1 := 802) dL_law_801 rfl rfl ?_
    refine JX_lcmp (v := 0) (pc1 := 803) dL_law_802 (lg_self _) rfl ?_
    refine JX_if_eq (tgt := 808) (pc1 := 806) dL_law_803 (by decide) (fun qq => ?_) rfl (fun qq => absurd (rfl) qq)
    refine JX_goto (tgt := 1748) dL_law_808 (by decide) ?_
    exact JX_sub [2, 3, 4, 5, 6, 7] rfl (JX_widen (by omega) (by omega) (hN _ _ _ _ _ _ _ _ _ _ _ _ _ hS1 hr9 hZ9 hI1))
theorem lwC_node (hlz : l.stackTraces = false) (hx : va_X b L xs s s.heap) (hbl : b < s.heap.size) (hL : 4 * n + 4 ≤ L) (hL2 : L ≤ 2048) (hI : gI (mxE gE_R E) (mxA adr ad)) (hS : cSt a0 S sv β len T E kd ad rh μc) (hr : rSt n S sv β len T μr) (hZ : lJ n S sv) (hN : lwN p l e s m below meth c D tc sa cJ cD x1 x2 adr b Q a0 (n + 1) (4 * n)) : JL p l e s m below meth c D tc sa cJ cD x1 x2 adr b Q E kd ad rh μr μc v8 d8 (1000 + 300 * n) (10000 + 5000 * n) 811 [(5, .int (nI (4 * n))), (4, .ref x2), (3, .ref x1), (2, .ref (adr 0 0)), (1, .ref a0), (0, .ref b)] [] := by
  have hn : n ≤ 600 := by omega
  have hIR : gI gE_R adr := gI_mxa mxL_R.1 hI
  refine JX_aload_n (i := 1) (q := 4) (pc1 := 812) dL_law_811 rfl rfl rfl ?_
  refine JX_aload_n (i := 0) (q := 5) (pc1 := 813) dL_law_812 rfl rfl rfl ?_
  refine JX_iload (i := 5) (q := 0) (pc1 := 815) dL_law_813 rfl rfl ?_
  refine JX_iconst (v := 1) (pc1 := 816) dL_law_815 (by decide) rfl ?_
  refine JX_iadd (pc1 := 817) dL_law_816 rfl ?_
  refine JX_eqI (y := nI (4 * n + 1)) (nI_add (4 * n) 1) ?_
  refine JX_sld (x := xs (4 * n + 1)) (pc1 := 818) hx hbl (Nat.not_le.mpr hbl) (vp_in_nI (by omega) (by omega)) (by rw [nI_clamp (by omega)]) dL_law_817 rfl ?_
  refine JX_aload_n (i := 0) (q := 5) (pc1 := 819) dL_law_818 rfl rfl rfl ?_
  refine JX_iload (i := 5) (q := 0) (pc1 := 821) dL_law_819 rfl rfl ?_
  refine JX_iconst (v := 2) (pc1 := 822) dL_law_821 (by decide) rfl ?_
  refine JX_iadd (pc1 := 823) dL_law_822 rfl ?_
  refine JX_eqI (y := nI (4 * n + 2)) (nI_add (4 * n) 2) ?_
  refine JX_sld (x := xs (4 * n + 2)) (pc1 := 824) hx hbl (Nat.not_le.mpr hbl) (vp_in_nI (by omega) (by omega)) (by rw [nI_clamp (by omega)]) dL_law_823 rfl ?_
  refine JX_aload_n (i := 3) (q := 2) (pc1 := 825) dL_law_824 rfl rfl rfl ?_
  refine JX_mixBW (ce := 1000 + 300 * n + 1) (sl := 10000 + 5000 * n + 6) (pc1 := 828) (st := []) (As := [.ref a0, .int (xs (4 * n + 1)), .int (xs (4 * n + 2)), .ref x1]) hI mxL_R (lW_node (a1 := xs (4 * n + 1)) (a2 := xs (4 * n + 2)) hlz hS hZ.1 hn) wwL_node wlL_146 rfl ⟨Nat.le_of_ble_eq_true rfl, Nat.le_of_ble_eq_true rfl⟩ ⟨by show 1000 + 300 * n + 1 ≤ 603072; omega, by show 10000 + 5000 * n + 6 ≤ 7219305; omega⟩ (Nat.le_of_ble_eq_true rfl) dL_law_825 rfl rfl rfl (fun o E1 kd1 ad1 rh1 μ1 w8 e8 hp hI1 => ?_)
  obtain ⟨rfl, hS1, hv⟩ := hp
  show JL p l e s m below meth c D tc sa cJ cD x1 x2 adr b Q E1 kd1 ad1 rh1 μr μ1 w8 e8 (1000 + 300 * n + 1) (10000 + 5000 * n + 6) 828 [(5, .int (nI (4 * n))), (4, .ref x2), (3, .ref x1), (2, .ref (adr 0 0)), (1, .ref a0), (0, .ref b)] [.int (nI (zaNode S (xs (4 * n + 1)).toInt (xs (4 * n + 2)).toInt).1)]
  refine JX_istore (i := 6) (lv1 := [(6, .int (nI (zaNode S (xs (4 * n + 1)).toInt (xs (4 * n + 2)).toInt).1)), (5, .int (nI (4 * n))), (4, .ref x2), (3, .ref x1), (2, .ref (adr 0 0)), (1, .ref a0), (0, .ref b)]) (pc1 := 830) dL_law_828 (by decide) rfl rfl ?_
  refine JX_aload_n (i := 2) (q := 4) (pc1 := 831) dL_law_830 rfl rfl rfl ?_
  refine JX_aload_n (i := 0) (q := 6) (pc1 := 832) dL_law_831 rfl rfl rfl ?_
  refine JX_iload (i := 5) (q := 1) (pc1 := 834) dL_law_832 rfl rfl ?_
  refine JX_iconst (v := 1) (pc1 := 835) dL_law_834 (by decide) rfl ?_
  refine JX_iadd (pc1 := 836) dL_law_835 rfl ?_
  refine JX_eqI (y := nI (4 * n + 1)) (nI_add (4 * n) 1) ?_
  refine JX_sld (x := xs (4 * n + 1)) (pc1 := 837) hx hbl (Nat.not_le.mpr hbl) (vp_in_nI (by omega) (by omega)) (by rw [nI_clamp (by omega)]) dL_law_836 rfl ?_
  refine JX_aload_n (i := 0) (q := 6) (pc1 := 838) dL_law_837 rfl rfl rfl ?_
  refine JX_iload (i := 5) (q := 1) (pc1 := 840) dL_law_838 rfl rfl ?_
  refine JX_iconst (v := 2) (pc1 := 841) dL_law_840 (by decide) rfl ?_
  refine JX_iadd (pc1 := 842) dL_law_841 rfl ?_
  refine JX_eqI (y := nI (4 * n + 2)) (nI_add (4 * n) 2) ?_
  refine JX_sld (x := xs (4 * n + 2)) (pc1 := 843) hx hbl (Nat.not_le.mpr hbl) (vp_in_nI (by omega) (by omega)) (by rw [nI_clamp (by omega)]) dL_law_842 rfl ?_
  obtain ⟨b9, μ9, hM, hc9, hb9, hr9, hZ9⟩ := rC_node (l := l) (D := D) (tc := tc) (sa := sa) (ad := adr) (a1 := xs (4 * n + 1)) (a2 := xs (4 * n + 2)) hIR hr hZ hn
  refine JX_mixAM (mc := 0) (ms := 0) (o := some (.int b9)) (μ1 := μ9) (pc1 := 846) (st := []) (st1 := [.int b9]) (ce := 1000 + 300 * n + 1) (sl := 10000 + 5000 * n + 6) hI1 mxL_R (J_hV (st := []) (As := [.int (xs (4 * n + 1)), .int (xs (4 * n + 2))]) (hM) wcX7_node rfl wlL_148 (mxA_a (by decide)).symm (mxE_a eR0) rfl rfl rfl ⟨Nat.le_of_ble_eq_true rfl, Nat.le_of_ble_eq_true rfl⟩ ⟨by show 1000 + 300 * n + 1 + 0 ≤ 603072; omega, by show 10000 + 5000 * n + 6 + 0 ≤ 7219305; omega⟩ (Nat.le_of_ble_eq_true rfl) dL_law_843) rfl rfl rfl rfl ?_
  refine JX_istore (i := 7) (lv1 := [(7, .int b9), (6, .int (nI (zaNode S (xs (4 * n + 1)).toInt (xs (4 * n + 2)).toInt).1)), (5, .int (nI (4 * n))), (4, .ref x2), (3, .ref x1), (2, .ref (adr 0 0)), (1, .ref a0), (0, .ref b)]) (pc1 := 848) dL_law_846 (by decide) rfl rfl ?_
  refine JX_aload_n (i := 2) (q := 5) (pc1 := 849) dL_law_848 rfl rfl rfl ?_
  refine JX_mixAM (mc := 0) (ms := 0) (o := some (.int (μ9 0 0 0))) (μ1 := μ9) (pc1 := 852) (st := []) (st1 := [.int (μ9 0 0 0)]) (ce := 1000 + 300 * n + 1) (sl := 10000 + 5000 * n + 6) hI1 mxL_R (J_hV (st := []) (As := []) (rC_thrown hIR) wcX7_thrown rfl wlL_114 (mxA_a (by decide)).symm (mxE_a eR0) rfl rfl rfl ⟨Nat.le_of_ble_eq_true rfl, Nat.le_of_ble_eq_true rfl⟩ ⟨by show 1000 + 300 * n + 1 + 0 ≤ 603072; omega, by show 10000 + 5000 * n + 6 + 0 ≤ 7219305; omega⟩ (Nat.le_of_ble_eq_true rfl) dL_law_849) rfl rfl rfl rfl ?_
  refine JX_iload (i := 6) (q := 1) (pc1 := 854) dL_law_852 rfl rfl ?_
  refine JX_icmp_eq (tgt := 859) (pc1 := 857) dL_law_854 (by decide) (fun qq => ?_) rfl (fun qq => absurd (th_eq hc9 (Nat.le_trans (zc_Node (S := S) (a := (xs (4 * n + 1)).toInt) (w := (xs (4 * n + 2)).toInt)) (Nat.le_of_ble_eq_true rfl))) qq)
  refine JX_iload (i := 6) (q := 1) (pc1 := 861) dL_law_859 rfl rfl ?_
  refine JX_if_ne (tgt := 876) (pc1 := 864) dL_law_861 (by decide) (fun qq => ?_) rfl (fun qq => ?_)
  · skip
    refine JX_goto (tgt := 1748) dL_law_876 (by decide) ?_
    exact JX_sub [2, 3, 4, 5, 6, 7] rfl (JX_widen (by omega) (by omega) (hN _ _ _ _ _ _ _ _ _ _ _ _ _ hS1 hr9 hZ9 hI1))
  · skip
    have h0 := th_0 qq (Nat.le_trans (zc_Node (S := S) (a := (xs (4 * n + 1)).toInt) (w := (xs (4 * n + 2)).toInt)) (Nat.le_of_ble_eq_true rfl))
    obtain ⟨r9, rfl, hr0⟩ := hv h0
    have e9 : r9 = b9 := Int32.toInt_inj.mp (hr0.trans (hb9 h0).symm)
    rw [e9]
    refine JX_aload_n (i := 3) (q := 4) (pc1 := 865) dL_law_864 rfl rfl rfl ?_
    refine JX_iconst (v := 0) (pc1 := 866) dL_law_865 (by decide) rfl ?_
    refine JX_lald (pc1 := 867) dL_law_866 rfl ?_
    refine JX_iload (i := 7) (q := 0) (pc1 := 869) dL_law_867 rfl rfl ?_
    refine JX_i2l (v := (b9).toInt64) (pc1 := 870) dL_law_869 rfl rfl ?_
    refine JX_lcmp (v := 0) (pc1 := 871) dL_law_870 (lg_self _) rfl ?_
    refine JX_if_eq (tgt := 876) (pc1 := 874) dL_law_871 (by decide) (fun qq => ?_) rfl (fun qq => absurd (rfl) qq)
    refine JX_goto (tgt := 1748) dL_law_876 (by decide) ?_
    exact JX_sub [2, 3, 4, 5, 6, 7] rfl (JX_widen (by omega) (by omega) (hN _ _ _ _ _ _ _ _ _ _ _ _ _ hS1 hr9 hZ9 hI1))
theorem lwC_noted (hlz : l.stackTraces = false) (hx : va_X b L xs s s.heap) (hbl : b < s.heap.size) (hL : 4 * n + 4 ≤ L) (hL2 : L ≤ 2048) (hI : gI (mxE gE_R E) (mxA adr ad)) (hS : cSt a0 S sv β len T E kd ad rh μc) (hr : rSt n S sv β len T μr) (hZ : lJ n S sv) (hN : lwN p l e s m below meth c D tc sa cJ cD x1 x2 adr b Q a0 (n + 1) (4 * n)) : JL p l e s m below meth c D tc sa cJ cD x1 x2 adr b Q E kd ad rh μr μc v8 d8 (1000 + 300 * n) (10000 + 5000 * n) 879 [(5, .int (nI (4 * n))), (4, .ref x2), (3, .ref x1), (2, .ref (adr 0 0)), (1, .ref a0), (0, .ref b)] [] := by
  have hn : n ≤ 600 := by omega
  have hIR : gI gE_R adr := gI_mxa mxL_R.1 hI
  refine JX_aload_n (i := 1) (q := 4) (pc1 := 880) dL_law_879 rfl rfl rfl ?_
  refine JX_aload_n (i := 0) (q := 5) (pc1 := 881) dL_law_880 rfl rfl rfl ?_
  refine JX_iload (i := 5) (q := 0) (pc1 := 883) dL_law_881 rfl rfl ?_
  refine JX_iconst (v := 1) (pc1 := 884) dL_law_883 (by decide) rfl ?_
  refine JX_iadd (pc1 := 885) dL_law_884 rfl ?_
  refine JX_eqI (y := nI (4 * n + 1)) (nI_add (4 * n) 1) ?_
  refine JX_sld (x := xs (4 * n + 1)) (pc1 := 886) hx hbl (Nat.not_le.mpr hbl) (vp_in_nI (by omega) (by omega)) (by rw [nI_clamp (by omega)]) dL_law_885 rfl ?_
  refine JX_aload_n (i := 0) (q := 5) (pc1 := 887) dL_law_886 rfl rfl rfl ?_
  refine JX_iload (i := 5) (q := 0) (pc1 := 889) dL_law_887 rfl rfl ?_
  refine JX_iconst (v := 2) (pc1 := 890) dL_law_889 (by decide) rfl ?_
  refine JX_iadd (pc1 := 891) dL_law_890 rfl ?_
  refine JX_eqI (y := nI (4 * n + 2)) (nI_add (4 * n) 2) ?_
  refine JX_sld (x := xs (4 * n + 2)) (pc1 := 892) hx hbl (Nat.not_le.mpr hbl) (vp_in_nI (by omega) (by omega)) (by rw [nI_clamp (by omega)]) dL_law_891 rfl ?_
  refine JX_aload_n (i := 0) (q := 5) (pc1 := 893) dL_law_892 rfl rfl rfl ?_
  refine JX_iload (i := 5) (q := 0) (pc1 := 895) dL_law_893 rfl rfl ?_
  refine JX_iconst (v := 3) (pc1 := 896) dL_law_895 (by decide) rfl ?_
  refine JX_iadd (pc1 := 897) dL_law_896 rfl ?_
  refine JX_eqI (y := nI (4 * n + 3)) (nI_add (4 * n) 3) ?_
  refine JX_sld (x := xs (4 * n + 3)) (pc1 := 898) hx hbl (Nat.not_le.mpr hbl) (vp_in_nI (by omega) (by omega)) (by rw [nI_clamp (by omega)]) dL_law_897 rfl ?_
  refine JX_aload_n (i := 3) (q := 2) (pc1 := 899) dL_law_898 rfl rfl rfl ?_
  refine JX_mixBW (ce := 1000 + 300 * n + 1) (sl := 10000 + 5000 * n + 6) (pc1 := 902) (st := []) (As := [.ref a0, .int (xs (4 * n + 1)), .int (xs (4 * n + 2)), .int (xs (4 * n + 3)), .ref x1]) hI mxL_R (lW_noted (a1 := xs (4 * n + 1)) (a2 := xs (4 * n + 2)) (a3 := xs (4 * n + 3)) hlz hS hZ.1 hn) wwL_noted wlL_149 rfl ⟨Nat.le_of_ble_eq_true rfl, Nat.le_of_ble_eq_true rfl⟩ ⟨by show 1000 + 300 * n + 1 ≤ 603072; omega, by show 10000 + 5000 * n + 6 ≤ 7219305; omega⟩ (Nat.le_of_ble_eq_true rfl) dL_law_899 rfl rfl rfl (fun o E1 kd1 ad1 rh1 μ1 w8 e8 hp hI1 => ?_)
  obtain ⟨rfl, hS1, hv⟩ := hp
  show JL p l e s m below meth c D tc sa cJ cD x1 x2 adr b Q E1 kd1 ad1 rh1 μr μ1 w8 e8 (1000 + 300 * n + 1) (10000 + 5000 * n + 6) 902 [(5, .int (nI (4 * n))), (4, .ref x2), (3, .ref x1), (2, .ref (adr 0 0)), (1, .ref a0), (0, .ref b)] [.int (nI (zaNoted S (xs (4 * n + 1)).toInt (xs (4 * n + 2)).toInt (xs (4 * n + 3)).toInt).1)]
  refine JX_istore (i := 6) (lv1 := [(6, .int (nI (zaNoted S (xs (4 * n + 1)).toInt (xs (4 * n + 2)).toInt (xs (4 * n + 3)).toInt).1)), (5, .int (nI (4 * n))), (4, .ref x2), (3, .ref x1), (2, .ref (adr 0 0)), (1, .ref a0), (0, .ref b)]) (pc1 := 904) dL_law_902 (by decide) rfl rfl ?_
  refine JX_aload_n (i := 2) (q := 4) (pc1 := 905) dL_law_904 rfl rfl rfl ?_
  refine JX_aload_n (i := 0) (q := 6) (pc1 := 906) dL_law_905 rfl rfl rfl ?_
  refine JX_iload (i := 5) (q := 1) (pc1 := 908) dL_law_906 rfl rfl ?_
  refine JX_iconst (v := 1) (pc1 := 909) dL_law_908 (by decide) rfl ?_
  refine JX_iadd (pc1 := 910) dL_law_909 rfl ?_
  refine JX_eqI (y := nI (4 * n + 1)) (nI_add (4 * n) 1) ?_
  refine JX_sld (x := xs (4 * n + 1)) (pc1 := 911) hx hbl (Nat.not_le.mpr hbl) (vp_in_nI (by omega) (by omega)) (by rw [nI_clamp (by omega)]) dL_law_910 rfl ?_
  refine JX_aload_n (i := 0) (q := 6) (pc1 := 912) dL_law_911 rfl rfl rfl ?_
  refine JX_iload (i := 5) (q := 1) (pc1 := 914) dL_law_912 rfl rfl ?_
  refine JX_iconst (v := 2) (pc1 := 915) dL_law_914 (by decide) rfl ?_
  refine JX_iadd (pc1 := 916) dL_law_915 rfl ?_
  refine JX_eqI (y := nI (4 * n + 2)) (nI_add (4 * n) 2) ?_
  refine JX_sld (x := xs (4 * n + 2)) (pc1 := 917) hx hbl (Nat.not_le.mpr hbl) (vp_in_nI (by omega) (by omega)) (by rw [nI_clamp (by omega)]) dL_law_916 rfl ?_
  refine JX_aload_n (i := 0) (q := 6) (pc1 := 918) dL_law_917 rfl rfl rfl ?_
  refine JX_iload (i := 5) (q := 1) (pc1 := 920) dL_law_918 rfl rfl ?_
  refine JX_iconst (v := 3) (pc1 := 921) dL_law_920 (by decide) rfl ?_
  refine JX_iadd (pc1 := 922) dL_law_921 rfl ?_
  refine JX_eqI (y := nI (4 * n + 3)) (nI_add (4 * n) 3) ?_
  refine JX_sld (x := xs (4 * n + 3)) (pc1 := 923) hx hbl (Nat.not_le.mpr hbl) (vp_in_nI (by omega) (by omega)) (by rw [nI_clamp (by omega)]) dL_law_922 rfl ?_
  obtain ⟨b9, μ9, hM, hc9, hb9, hr9, hZ9⟩ := rC_noted (l := l) (D := D) (tc := tc) (sa := sa) (ad := adr) (a1 := xs (4 * n + 1)) (a2 := xs (4 * n + 2)) (a3 := xs (4 * n + 3)) hIR hr hZ hn
  refine JX_mixAM (mc := 0) (ms := 0) (o := some (.int b9)) (μ1 := μ9) (pc1 := 926) (st := []) (st1 := [.int b9]) (ce := 1000 + 300 * n + 1) (sl := 10000 + 5000 * n + 6) hI1 mxL_R (J_hV (st := []) (As := [.int (xs (4 * n + 1)), .int (xs (4 * n + 2)), .int (xs (4 * n + 3))]) (hM) wcX7_noted rfl wlL_152 (mxA_a (by decide)).symm (mxE_a eR0) rfl rfl rfl ⟨Nat.le_of_ble_eq_true rfl, Nat.le_of_ble_eq_true rfl⟩ ⟨by show 1000 + 300 * n + 1 + 0 ≤ 603072; omega, by show 10000 + 5000 * n + 6 + 0 ≤ 7219305; omega⟩ (Nat.le_of_ble_eq_true rfl) dL_law_923) rfl rfl rfl rfl ?_
  refine JX_istore (i := 7) (lv1 := [(7, .int b9), (6, .int (nI (zaNoted S (xs (4 * n + 1)).toInt (xs (4 * n + 2)).toInt (xs (4 * n + 3)).toInt).1)), (5, .int (nI (4 * n))), (4, .ref x2), (3, .ref x1), (2, .ref (adr 0 0)), (1, .ref a0), (0, .ref b)]) (pc1 := 928) dL_law_926 (by decide) rfl rfl ?_
  refine JX_aload_n (i := 2) (q := 5) (pc1 := 929) dL_law_928 rfl rfl rfl ?_
  refine JX_mixAM (mc := 0) (ms := 0) (o := some (.int (μ9 0 0 0))) (μ1 := μ9) (pc1 := 932) (st := []) (st1 := [.int (μ9 0 0 0)]) (ce := 1000 + 300 * n + 1) (sl := 10000 + 5000 * n + 6) hI1 mxL_R (J_hV (st := []) (As := []) (rC_thrown hIR) wcX7_thrown rfl wlL_114 (mxA_a (by decide)).symm (mxE_a eR0) rfl rfl rfl ⟨Nat.le_of_ble_eq_true rfl, Nat.le_of_ble_eq_true rfl⟩ ⟨by show 1000 + 300 * n + 1 + 0 ≤ 603072; omega, by show 10000 + 5000 * n + 6 + 0 ≤ 7219305; omega⟩ (Nat.le_of_ble_eq_true rfl) dL_law_929) rfl rfl rfl rfl ?_
  refine JX_iload (i := 6) (q := 1) (pc1 := 934) dL_law_932 rfl rfl ?_
  refine JX_icmp_eq (tgt := 939) (pc1 := 937) dL_law_934 (by decide) (fun qq => ?_) rfl (fun qq => absurd (th_eq hc9 (Nat.le_trans (zc_Noted (S := S) (a := (xs (4 * n + 1)).toInt) (b := (xs (4 * n + 2)).toInt) (w := (xs (4 * n + 3)).toInt)) (Nat.le_of_ble_eq_true rfl))) qq)
  refine JX_iload (i := 6) (q := 1) (pc1 := 941) dL_law_939 rfl rfl ?_
  refine JX_if_ne (tgt := 956) (pc1 := 944) dL_law_941 (by decide) (fun qq => ?_) rfl (fun qq => ?_)
  · skip
    refine JX_goto (tgt := 1748) dL_law_956 (by decide) ?_
    exact JX_sub [2, 3, 4, 5, 6, 7] rfl (JX_widen (by omega) (by omega) (hN _ _ _ _ _ _ _ _ _ _ _ _ _ hS1 hr9 hZ9 hI1))
  · skip
    have h0 := th_0 qq (Nat.le_trans (zc_Noted (S := S) (a := (xs (4 * n + 1)).toInt) (b := (xs (4 * n + 2)).toInt) (w := (xs (4 * n + 3)).toInt)) (Nat.le_of_ble_eq_true rfl))
    obtain ⟨r9, rfl, hr0⟩ := hv h0
    have e9 : r9 = b9 := Int32.toInt_inj.mp (hr0.trans (hb9 h0).symm)
    rw [e9]
    refine JX_aload_n (i := 3) (q := 4) (pc1 := 945) dL_law_944 rfl rfl rfl ?_
    refine JX_iconst (v := 0) (pc1 := 946) dL_law_945 (by decide) rfl ?_
    refine JX_lald (pc1 := 947) dL_law_946 rfl ?_
    refine JX_iload (i := 7) (q := 0) (pc1 := 949) dL_law_947 rfl rfl ?_
    refine JX_i2l (v := (b9).toInt64) (pc1 := 950) dL_law_949 rfl rfl ?_
    refine JX_lcmp (v := 0) (pc1 := 951) dL_law_950 (lg_self _) rfl ?_
    refine JX_if_eq (tgt := 956) (pc1 := 954) dL_law_951 (by decide) (fun qq => ?_) rfl (fun qq => absurd (rfl) qq)
    refine JX_goto (tgt := 1748) dL_law_956 (by decide) ?_
    exact JX_sub [2, 3, 4, 5, 6, 7] rfl (JX_widen (by omega) (by omega) (hN _ _ _ _ _ _ _ _ _ _ _ _ _ hS1 hr9 hZ9 hI1))
theorem lwC_entry (hlz : l.stackTraces = false) (hx : va_X b L xs s s.heap) (hbl : b < s.heap.size) (hL : 4 * n + 4 ≤ L) (hL2 : L ≤ 2048) (hI : gI (mxE gE_R E) (mxA adr ad)) (hS : cSt a0 S sv β len T E kd ad rh μc) (hr : rSt n S sv β len T μr) (hZ : lJ n S sv) (hN : lwN p l e s m below meth c D tc sa cJ cD x1 x2 adr b Q a0 (n + 1) (4 * n)) : JL p l e s m below meth c D tc sa cJ cD x1 x2 adr b Q E kd ad rh μr μc v8 d8 (1000 + 300 * n) (10000 + 5000 * n) 959 [(5, .int (nI (4 * n))), (4, .ref x2), (3, .ref x1), (2, .ref (adr 0 0)), (1, .ref a0), (0, .ref b)] [] := by
  have hn : n ≤ 600 := by omega
  have hIR : gI gE_R adr := gI_mxa mxL_R.1 hI
  refine JX_aload_n (i := 1) (q := 4) (pc1 := 960) dL_law_959 rfl rfl rfl ?_
  refine JX_aload_n (i := 0) (q := 5) (pc1 := 961) dL_law_960 rfl rfl rfl ?_
  refine JX_iload (i := 5) (q := 0) (pc1 := 963) dL_law_961 rfl rfl ?_
  refine JX_iconst (v := 1) (pc1 := 964) dL_law_963 (by decide) rfl ?_
  refine JX_iadd (pc1 := 965) dL_law_964 rfl ?_
  refine JX_eqI (y := nI (4 * n + 1)) (nI_add (4 * n) 1) ?_
  refine JX_sld (x := xs (4 * n + 1)) (pc1 := 966) hx hbl (Nat.not_le.mpr hbl) (vp_in_nI (by omega) (by omega)) (by rw [nI_clamp (by omega)]) dL_law_965 rfl ?_
  refine JX_aload_n (i := 0) (q := 5) (pc1 := 967) dL_law_966 rfl rfl rfl ?_
  refine JX_iload (i := 5) (q := 0) (pc1 := 969) dL_law_967 rfl rfl ?_
  refine JX_iconst (v := 2) (pc1 := 970) dL_law_969 (by decide) rfl ?_
  refine JX_iadd (pc1 := 971) dL_law_970 rfl ?_
  refine JX_eqI (y := nI (4 * n + 2)) (nI_add (4 * n) 2) ?_
  refine JX_sld (x := xs (4 * n + 2)) (pc1 := 972) hx hbl (Nat.not_le.mpr hbl) (vp_in_nI (by omega) (by omega)) (by rw [nI_clamp (by omega)]) dL_law_971 rfl ?_
  refine JX_aload_n (i := 0) (q := 5) (pc1 := 973) dL_law_972 rfl rfl rfl ?_
  refine JX_iload (i := 5) (q := 0) (pc1 := 975) dL_law_973 rfl rfl ?_
  refine JX_iconst (v := 3) (pc1 := 976) dL_law_975 (by decide) rfl ?_
  refine JX_iadd (pc1 := 977) dL_law_976 rfl ?_
  refine JX_eqI (y := nI (4 * n + 3)) (nI_add (4 * n) 3) ?_
  refine JX_sld (x := xs (4 * n + 3)) (pc1 := 978) hx hbl (Nat.not_le.mpr hbl) (vp_in_nI (by omega) (by omega)) (by rw [nI_clamp (by omega)]) dL_law_977 rfl ?_
  refine JX_aload_n (i := 3) (q := 2) (pc1 := 979) dL_law_978 rfl rfl rfl ?_
  refine JX_mixBW (ce := 1000 + 300 * n + 1) (sl := 10000 + 5000 * n + 6) (pc1 := 982) (st := []) (As := [.ref a0, .int (xs (4 * n + 1)), .int (xs (4 * n + 2)), .int (xs (4 * n + 3)), .ref x1]) hI mxL_R (lW_entry (a1 := xs (4 * n + 1)) (a2 := xs (4 * n + 2)) (a3 := xs (4 * n + 3)) hlz hS hZ.1 hn) wwL_entry wlL_153 rfl ⟨Nat.le_of_ble_eq_true rfl, Nat.le_of_ble_eq_true rfl⟩ ⟨by show 1000 + 300 * n + 1 ≤ 603072; omega, by show 10000 + 5000 * n + 6 ≤ 7219305; omega⟩ (Nat.le_of_ble_eq_true rfl) dL_law_979 rfl rfl rfl (fun o E1 kd1 ad1 rh1 μ1 w8 e8 hp hI1 => ?_)
  obtain ⟨rfl, hS1, hv⟩ := hp
  show JL p l e s m below meth c D tc sa cJ cD x1 x2 adr b Q E1 kd1 ad1 rh1 μr μ1 w8 e8 (1000 + 300 * n + 1) (10000 + 5000 * n + 6) 982 [(5, .int (nI (4 * n))), (4, .ref x2), (3, .ref x1), (2, .ref (adr 0 0)), (1, .ref a0), (0, .ref b)] [.int (nI (zaEnt S (xs (4 * n + 1)).toInt (xs (4 * n + 2)).toInt (xs (4 * n + 3)).toInt).1)]
  refine JX_istore (i := 6) (lv1 := [(6, .int (nI (zaEnt S (xs (4 * n + 1)).toInt (xs (4 * n + 2)).toInt (xs (4 * n + 3)).toInt).1)), (5, .int (nI (4 * n))), (4, .ref x2), (3, .ref x1), (2, .ref (adr 0 0)), (1, .ref a0), (0, .ref b)]) (pc1 := 984) dL_law_982 (by decide) rfl rfl ?_
  refine JX_aload_n (i := 2) (q := 4) (pc1 := 985) dL_law_984 rfl rfl rfl ?_
  refine JX_aload_n (i := 0) (q := 6) (pc1 := 986) dL_law_985 rfl rfl rfl ?_
  refine JX_iload (i := 5) (q := 1) (pc1 := 988) dL_law_986 rfl rfl ?_
  refine JX_iconst (v := 1) (pc1 := 989) dL_law_988 (by decide) rfl ?_
  refine JX_iadd (pc1 := 990) dL_law_989 rfl ?_
  refine JX_eqI (y := nI (4 * n + 1)) (nI_add (4 * n) 1) ?_
  refine JX_sld (x := xs (4 * n + 1)) (pc1 := 991) hx hbl (Nat.not_le.mpr hbl) (vp_in_nI (by omega) (by omega)) (by rw [nI_clamp (by omega)]) dL_law_990 rfl ?_
  refine JX_aload_n (i := 0) (q := 6) (pc1 := 992) dL_law_991 rfl rfl rfl ?_
  refine JX_iload (i := 5) (q := 1) (pc1 := 994) dL_law_992 rfl rfl ?_
  refine JX_iconst (v := 2) (pc1 := 995) dL_law_994 (by decide) rfl ?_
  refine JX_iadd (pc1 := 996) dL_law_995 rfl ?_
  refine JX_eqI (y := nI (4 * n + 2)) (nI_add (4 * n) 2) ?_
  refine JX_sld (x := xs (4 * n + 2)) (pc1 := 997) hx hbl (Nat.not_le.mpr hbl) (vp_in_nI (by omega) (by omega)) (by rw [nI_clamp (by omega)]) dL_law_996 rfl ?_
  refine JX_aload_n (i := 0) (q := 6) (pc1 := 998) dL_law_997 rfl rfl rfl ?_
  refine JX_iload (i := 5) (q := 1) (pc1 := 1000) dL_law_998 rfl rfl ?_
  refine JX_iconst (v := 3) (pc1 := 1001) dL_law_1000 (by decide) rfl ?_
  refine JX_iadd (pc1 := 1002) dL_law_1001 rfl ?_
  refine JX_eqI (y := nI (4 * n + 3)) (nI_add (4 * n) 3) ?_
  refine JX_sld (x := xs (4 * n + 3)) (pc1 := 1003) hx hbl (Nat.not_le.mpr hbl) (vp_in_nI (by omega) (by omega)) (by rw [nI_clamp (by omega)]) dL_law_1002 rfl ?_
  obtain ⟨b9, μ9, hM, hc9, hb9, hr9, hZ9⟩ := rC_entry (l := l) (D := D) (tc := tc) (sa := sa) (ad := adr) (a1 := xs (4 * n + 1)) (a2 := xs (4 * n + 2)) (a3 := xs (4 * n + 3)) hIR hr hZ hn
  refine JX_mixAM (mc := 0) (ms := 0) (o := some (.int b9)) (μ1 := μ9) (pc1 := 1006) (st := []) (st1 := [.int b9]) (ce := 1000 + 300 * n + 1) (sl := 10000 + 5000 * n + 6) hI1 mxL_R (J_hV (st := []) (As := [.int (xs (4 * n + 1)), .int (xs (4 * n + 2)), .int (xs (4 * n + 3))]) (hM) wcX7_entry rfl wlL_155 (mxA_a (by decide)).symm (mxE_a eR0) rfl rfl rfl ⟨Nat.le_of_ble_eq_true rfl, Nat.le_of_ble_eq_true rfl⟩ ⟨by show 1000 + 300 * n + 1 + 0 ≤ 603072; omega, by show 10000 + 5000 * n + 6 + 0 ≤ 7219305; omega⟩ (Nat.le_of_ble_eq_true rfl) dL_law_1003) rfl rfl rfl rfl ?_
  refine JX_istore (i := 7) (lv1 := [(7, .int b9), (6, .int (nI (zaEnt S (xs (4 * n + 1)).toInt (xs (4 * n + 2)).toInt (xs (4 * n + 3)).toInt).1)), (5, .int (nI (4 * n))), (4, .ref x2), (3, .ref x1), (2, .ref (adr 0 0)), (1, .ref a0), (0, .ref b)]) (pc1 := 1008) dL_law_1006 (by decide) rfl rfl ?_
  refine JX_aload_n (i := 2) (q := 5) (pc1 := 1009) dL_law_1008 rfl rfl rfl ?_
  refine JX_mixAM (mc := 0) (ms := 0) (o := some (.int (μ9 0 0 0))) (μ1 := μ9) (pc1 := 1012) (st := []) (st1 := [.int (μ9 0 0 0)]) (ce := 1000 + 300 * n + 1) (sl := 10000 + 5000 * n + 6) hI1 mxL_R (J_hV (st := []) (As := []) (rC_thrown hIR) wcX7_thrown rfl wlL_114 (mxA_a (by decide)).symm (mxE_a eR0) rfl rfl rfl ⟨Nat.le_of_ble_eq_true rfl, Nat.le_of_ble_eq_true rfl⟩ ⟨by show 1000 + 300 * n + 1 + 0 ≤ 603072; omega, by show 10000 + 5000 * n + 6 + 0 ≤ 7219305; omega⟩ (Nat.le_of_ble_eq_true rfl) dL_law_1009) rfl rfl rfl rfl ?_
  refine JX_iload (i := 6) (q := 1) (pc1 := 1014) dL_law_1012 rfl rfl ?_
  refine JX_icmp_eq (tgt := 1019) (pc1 := 1017) dL_law_1014 (by decide) (fun qq => ?_) rfl (fun qq => absurd (th_eq hc9 (Nat.le_trans (zc_Ent (S := S) (a := (xs (4 * n + 1)).toInt) (b := (xs (4 * n + 2)).toInt) (w := (xs (4 * n + 3)).toInt)) (Nat.le_of_ble_eq_true rfl))) qq)
  refine JX_iload (i := 6) (q := 1) (pc1 := 1021) dL_law_1019 rfl rfl ?_
  refine JX_if_ne (tgt := 1036) (pc1 := 1024) dL_law_1021 (by decide) (fun qq => ?_) rfl (fun qq => ?_)
  · skip
    refine JX_goto (tgt := 1748) dL_law_1036 (by decide) ?_
    exact JX_sub [2, 3, 4, 5, 6, 7] rfl (JX_widen (by omega) (by omega) (hN _ _ _ _ _ _ _ _ _ _ _ _ _ hS1 hr9 hZ9 hI1))
  · skip
    have h0 := th_0 qq (Nat.le_trans (zc_Ent (S := S) (a := (xs (4 * n + 1)).toInt) (b := (xs (4 * n + 2)).toInt) (w := (xs (4 * n + 3)).toInt)) (Nat.le_of_ble_eq_true rfl))
    obtain ⟨r9, rfl, hr0⟩ := hv h0
    have e9 : r9 = b9 := Int32.toInt_inj.mp (hr0.trans (hb9 h0).symm)
    rw [e9]
    refine JX_aload_n (i := 3) (q := 4) (pc1 := 1025) dL_law_1024 rfl rfl rfl ?_
    refine JX_iconst (v := 0) (pc1 := 1026) dL_law_1025 (by decide) rfl ?_
    refine JX_lald (pc1 := 1027) dL_law_1026 rfl ?_
    refine JX_iload (i := 7) (q := 0) (pc1 := 1029) dL_law_1027 rfl rfl ?_
    refine JX_i2l (v := (b9).toInt64) (pc1 := 1030) dL_law_1029 rfl rfl ?_
    refine JX_lcmp (v := 0) (pc1 := 1031) dL_law_1030 (lg_self _) rfl ?_
    refine JX_if_eq (tgt := 1036) (pc1 := 1034) dL_law_1031 (by decide) (fun qq => ?_) rfl (fun qq => absurd (rfl) qq)
    refine JX_goto (tgt := 1748) dL_law_1036 (by decide) ?_
    exact JX_sub [2, 3, 4, 5, 6, 7] rfl (JX_widen (by omega) (by omega) (hN _ _ _ _ _ _ _ _ _ _ _ _ _ hS1 hr9 hZ9 hI1))
theorem lwC_message (hlz : l.stackTraces = false) (hx : va_X b L xs s s.heap) (hbl : b < s.heap.size) (hL : 4 * n + 4 ≤ L) (hL2 : L ≤ 2048) (hI : gI (mxE gE_R E) (mxA adr ad)) (hS : cSt a0 S sv β len T E kd ad rh μc) (hr : rSt n S sv β len T μr) (hZ : lJ n S sv) (hN : lwN p l e s m below meth c D tc sa cJ cD x1 x2 adr b Q a0 (n + 1) (4 * n)) : JL p l e s m below meth c D tc sa cJ cD x1 x2 adr b Q E kd ad rh μr μc v8 d8 (1000 + 300 * n) (10000 + 5000 * n) 1052 [(5, .int (nI (4 * n))), (4, .ref x2), (3, .ref x1), (2, .ref (adr 0 0)), (1, .ref a0), (0, .ref b)] [] := by
  have hn : n ≤ 600 := by omega
  have hIR : gI gE_R adr := gI_mxa mxL_R.1 hI
  refine JX_aload_n (i := 1) (q := 4) (pc1 := 1053) dL_law_1052 rfl rfl rfl ?_
  refine JX_aload_n (i := 0) (q := 5) (pc1 := 1054) dL_law_1053 rfl rfl rfl ?_
  refine JX_iload (i := 5) (q := 0) (pc1 := 1056) dL_law_1054 rfl rfl ?_
  refine JX_iconst (v := 1) (pc1 := 1057) dL_law_1056 (by decide) rfl ?_
  refine JX_iadd (pc1 := 1058) dL_law_1057 rfl ?_
  refine JX_eqI (y := nI (4 * n + 1)) (nI_add (4 * n) 1) ?_
  refine JX_sld (x := xs (4 * n + 1)) (pc1 := 1059) hx hbl (Nat.not_le.mpr hbl) (vp_in_nI (by omega) (by omega)) (by rw [nI_clamp (by omega)]) dL_law_1058 rfl ?_
  refine JX_aload_n (i := 0) (q := 5) (pc1 := 1060) dL_law_1059 rfl rfl rfl ?_
  refine JX_iload (i := 5) (q := 0) (pc1 := 1062) dL_law_1060 rfl rfl ?_
  refine JX_iconst (v := 2) (pc1 := 1063) dL_law_1062 (by decide) rfl ?_
  refine JX_iadd (pc1 := 1064) dL_law_1063 rfl ?_
  refine JX_eqI (y := nI (4 * n + 2)) (nI_add (4 * n) 2) ?_
  refine JX_sld (x := xs (4 * n + 2)) (pc1 := 1065) hx hbl (Nat.not_le.mpr hbl) (vp_in_nI (by omega) (by omega)) (by rw [nI_clamp (by omega)]) dL_law_1064 rfl ?_
  refine JX_aload_n (i := 3) (q := 2) (pc1 := 1066) dL_law_1065 rfl rfl rfl ?_
  refine JX_mixBW (ce := 1000 + 300 * n + 1) (sl := 10000 + 5000 * n + 6) (pc1 := 1069) (st := []) (As := [.ref a0, .int (xs (4 * n + 1)), .int (xs (4 * n + 2)), .ref x1]) hI mxL_R (lW_message (a1 := xs (4 * n + 1)) (a2 := xs (4 * n + 2)) hlz hS hZ.1 hn) wwL_message wlL_160 rfl ⟨Nat.le_of_ble_eq_true rfl, Nat.le_of_ble_eq_true rfl⟩ ⟨by show 1000 + 300 * n + 1 ≤ 603072; omega, by show 10000 + 5000 * n + 6 ≤ 7219305; omega⟩ (Nat.le_of_ble_eq_true rfl) dL_law_1066 rfl rfl rfl (fun o E1 kd1 ad1 rh1 μ1 w8 e8 hp hI1 => ?_)
  obtain ⟨rfl, hS1, hv⟩ := hp
  show JL p l e s m below meth c D tc sa cJ cD x1 x2 adr b Q E1 kd1 ad1 rh1 μr μ1 w8 e8 (1000 + 300 * n + 1) (10000 + 5000 * n + 6) 1069 [(5, .int (nI (4 * n))), (4, .ref x2), (3, .ref x1), (2, .ref (adr 0 0)), (1, .ref a0), (0, .ref b)] [.int (nI (zaMsg S (xs (4 * n + 1)).toInt (xs (4 * n + 2)).toInt).1)]
  refine JX_istore (i := 6) (lv1 := [(6, .int (nI (zaMsg S (xs (4 * n + 1)).toInt (xs (4 * n + 2)).toInt).1)), (5, .int (nI (4 * n))), (4, .ref x2), (3, .ref x1), (2, .ref (adr 0 0)), (1, .ref a0), (0, .ref b)]) (pc1 := 1071) dL_law_1069 (by decide) rfl rfl ?_
  refine JX_aload_n (i := 2) (q := 4) (pc1 := 1072) dL_law_1071 rfl rfl rfl ?_
  refine JX_aload_n (i := 0) (q := 6) (pc1 := 1073) dL_law_1072 rfl rfl rfl ?_
  refine JX_iload (i := 5) (q := 1) (pc1 := 1075) dL_law_1073 rfl rfl ?_
  refine JX_iconst (v := 1) (pc1 := 1076) dL_law_1075 (by decide) rfl ?_
  refine JX_iadd (pc1 := 1077) dL_law_1076 rfl ?_
  refine JX_eqI (y := nI (4 * n + 1)) (nI_add (4 * n) 1) ?_
  refine JX_sld (x := xs (4 * n + 1)) (pc1 := 1078) hx hbl (Nat.not_le.mpr hbl) (vp_in_nI (by omega) (by omega)) (by rw [nI_clamp (by omega)]) dL_law_1077 rfl ?_
  refine JX_aload_n (i := 0) (q := 6) (pc1 := 1079) dL_law_1078 rfl rfl rfl ?_
  refine JX_iload (i := 5) (q := 1) (pc1 := 1081) dL_law_1079 rfl rfl ?_
  refine JX_iconst (v := 2) (pc1 := 1082) dL_law_1081 (by decide) rfl ?_
  refine JX_iadd (pc1 := 1083) dL_law_1082 rfl ?_
  refine JX_eqI (y := nI (4 * n + 2)) (nI_add (4 * n) 2) ?_
  refine JX_sld (x := xs (4 * n + 2)) (pc1 := 1084) hx hbl (Nat.not_le.mpr hbl) (vp_in_nI (by omega) (by omega)) (by rw [nI_clamp (by omega)]) dL_law_1083 rfl ?_
  obtain ⟨b9, μ9, hM, hc9, hb9, hr9, hZ9⟩ := rC_message (l := l) (D := D) (tc := tc) (sa := sa) (ad := adr) (a1 := xs (4 * n + 1)) (a2 := xs (4 * n + 2)) hIR hr hZ hn
  refine JX_mixAM (mc := 0) (ms := 0) (o := some (.int b9)) (μ1 := μ9) (pc1 := 1087) (st := []) (st1 := [.int b9]) (ce := 1000 + 300 * n + 1) (sl := 10000 + 5000 * n + 6) hI1 mxL_R (J_hV (st := []) (As := [.int (xs (4 * n + 1)), .int (xs (4 * n + 2))]) (hM) wcX7_message rfl wlL_162 (mxA_a (by decide)).symm (mxE_a eR0) rfl rfl rfl ⟨Nat.le_of_ble_eq_true rfl, Nat.le_of_ble_eq_true rfl⟩ ⟨by show 1000 + 300 * n + 1 + 0 ≤ 603072; omega, by show 10000 + 5000 * n + 6 + 0 ≤ 7219305; omega⟩ (Nat.le_of_ble_eq_true rfl) dL_law_1084) rfl rfl rfl rfl ?_
  refine JX_istore (i := 7) (lv1 := [(7, .int b9), (6, .int (nI (zaMsg S (xs (4 * n + 1)).toInt (xs (4 * n + 2)).toInt).1)), (5, .int (nI (4 * n))), (4, .ref x2), (3, .ref x1), (2, .ref (adr 0 0)), (1, .ref a0), (0, .ref b)]) (pc1 := 1089) dL_law_1087 (by decide) rfl rfl ?_
  refine JX_aload_n (i := 2) (q := 5) (pc1 := 1090) dL_law_1089 rfl rfl rfl ?_
  refine JX_mixAM (mc := 0) (ms := 0) (o := some (.int (μ9 0 0 0))) (μ1 := μ9) (pc1 := 1093) (st := []) (st1 := [.int (μ9 0 0 0)]) (ce := 1000 + 300 * n + 1) (sl := 10000 + 5000 * n + 6) hI1 mxL_R (J_hV (st := []) (As := []) (rC_thrown hIR) wcX7_thrown rfl wlL_114 (mxA_a (by decide)).symm (mxE_a eR0) rfl rfl rfl ⟨Nat.le_of_ble_eq_true rfl, Nat.le_of_ble_eq_true rfl⟩ ⟨by show 1000 + 300 * n + 1 + 0 ≤ 603072; omega, by show 10000 + 5000 * n + 6 + 0 ≤ 7219305; omega⟩ (Nat.le_of_ble_eq_true rfl) dL_law_1090) rfl rfl rfl rfl ?_
  refine JX_iload (i := 6) (q := 1) (pc1 := 1095) dL_law_1093 rfl rfl ?_
  refine JX_icmp_eq (tgt := 1100) (pc1 := 1098) dL_law_1095 (by decide) (fun qq => ?_) rfl (fun qq => absurd (th_eq hc9 (Nat.le_trans (zc_Msg (S := S) (a := (xs (4 * n + 1)).toInt) (w := (xs (4 * n + 2)).toInt)) (Nat.le_of_ble_eq_true rfl))) qq)
  refine JX_iload (i := 6) (q := 1) (pc1 := 1102) dL_law_1100 rfl rfl ?_
  refine JX_if_ne (tgt := 1117) (pc1 := 1105) dL_law_1102 (by decide) (fun qq => ?_) rfl (fun qq => ?_)
  · skip
    refine JX_goto (tgt := 1748) dL_law_1117 (by decide) ?_
    exact JX_sub [2, 3, 4, 5, 6, 7] rfl (JX_widen (by omega) (by omega) (hN _ _ _ _ _ _ _ _ _ _ _ _ _ hS1 hr9 hZ9 hI1))
  · skip
    have h0 := th_0 qq (Nat.le_trans (zc_Msg (S := S) (a := (xs (4 * n + 1)).toInt) (w := (xs (4 * n + 2)).toInt)) (Nat.le_of_ble_eq_true rfl))
    obtain ⟨r9, rfl, hr0⟩ := hv h0
    have e9 : r9 = b9 := Int32.toInt_inj.mp (hr0.trans (hb9 h0).symm)
    rw [e9]
    refine JX_aload_n (i := 3) (q := 4) (pc1 := 1106) dL_law_1105 rfl rfl rfl ?_
    refine JX_iconst (v := 0) (pc1 := 1107) dL_law_1106 (by decide) rfl ?_
    refine JX_lald (pc1 := 1108) dL_law_1107 rfl ?_
    refine JX_iload (i := 7) (q := 0) (pc1 := 1110) dL_law_1108 rfl rfl ?_
    refine JX_i2l (v := (b9).toInt64) (pc1 := 1111) dL_law_1110 rfl rfl ?_
    refine JX_lcmp (v := 0) (pc1 := 1112) dL_law_1111 (lg_self _) rfl ?_
    refine JX_if_eq (tgt := 1117) (pc1 := 1115) dL_law_1112 (by decide) (fun qq => ?_) rfl (fun qq => absurd (rfl) qq)
    refine JX_goto (tgt := 1748) dL_law_1117 (by decide) ?_
    exact JX_sub [2, 3, 4, 5, 6, 7] rfl (JX_widen (by omega) (by omega) (hN _ _ _ _ _ _ _ _ _ _ _ _ _ hS1 hr9 hZ9 hI1))
theorem lwC_lose (hlz : l.stackTraces = false) (hx : va_X b L xs s s.heap) (hbl : b < s.heap.size) (hL : 4 * n + 4 ≤ L) (hL2 : L ≤ 2048) (hI : gI (mxE gE_R E) (mxA adr ad)) (hS : cSt a0 S sv β len T E kd ad rh μc) (hr : rSt n S sv β len T μr) (hZ : lJ n S sv) (hN : lwN p l e s m below meth c D tc sa cJ cD x1 x2 adr b Q a0 (n + 1) (4 * n)) : JL p l e s m below meth c D tc sa cJ cD x1 x2 adr b Q E kd ad rh μr μc v8 d8 (1000 + 300 * n) (10000 + 5000 * n) 1120 [(5, .int (nI (4 * n))), (4, .ref x2), (3, .ref x1), (2, .ref (adr 0 0)), (1, .ref a0), (0, .ref b)] [] := by
  have hn : n ≤ 600 := by omega
  have hIR : gI gE_R adr := gI_mxa mxL_R.1 hI
  refine JX_aload_n (i := 1) (q := 4) (pc1 := 1121) dL_law_1120 rfl rfl rfl ?_
  refine JX_aload_n (i := 0) (q := 5) (pc1 := 1122) dL_law_1121 rfl rfl rfl ?_
  refine JX_iload (i := 5) (q := 0) (pc1 := 1124) dL_law_1122 rfl rfl ?_
  refine JX_iconst (v := 1) (pc1 := 1125) dL_law_1124 (by decide) rfl ?_
  refine JX_iadd (pc1 := 1126) dL_law_1125 rfl ?_
  refine JX_eqI (y := nI (4 * n + 1)) (nI_add (4 * n) 1) ?_
  refine JX_sld (x := xs (4 * n + 1)) (pc1 := 1127) hx hbl (Nat.not_le.mpr hbl) (vp_in_nI (by omega) (by omega)) (by rw [nI_clamp (by omega)]) dL_law_1126 rfl ?_
  refine JX_aload_n (i := 3) (q := 2) (pc1 := 1128) dL_law_1127 rfl rfl rfl ?_
  refine JX_mixBW (ce := 1000 + 300 * n + 1) (sl := 10000 + 5000 * n + 6) (pc1 := 1131) (st := []) (As := [.ref a0, .int (xs (4 * n + 1)), .ref x1]) hI mxL_R (lW_lose (a1 := xs (4 * n + 1)) hlz hS hZ.1 hn) wwL_lose wlL_163 rfl ⟨Nat.le_of_ble_eq_true rfl, Nat.le_of_ble_eq_true rfl⟩ ⟨by show 1000 + 300 * n + 1 ≤ 603072; omega, by show 10000 + 5000 * n + 6 ≤ 7219305; omega⟩ (Nat.le_of_ble_eq_true rfl) dL_law_1128 rfl rfl rfl (fun o E1 kd1 ad1 rh1 μ1 w8 e8 hp hI1 => ?_)
  obtain ⟨rfl, hS1, hv⟩ := hp
  show JL p l e s m below meth c D tc sa cJ cD x1 x2 adr b Q E1 kd1 ad1 rh1 μr μ1 w8 e8 (1000 + 300 * n + 1) (10000 + 5000 * n + 6) 1131 [(5, .int (nI (4 * n))), (4, .ref x2), (3, .ref x1), (2, .ref (adr 0 0)), (1, .ref a0), (0, .ref b)] [.int (nI (zaLose S (xs (4 * n + 1)).toInt).1)]
  refine JX_istore (i := 6) (lv1 := [(6, .int (nI (zaLose S (xs (4 * n + 1)).toInt).1)), (5, .int (nI (4 * n))), (4, .ref x2), (3, .ref x1), (2, .ref (adr 0 0)), (1, .ref a0), (0, .ref b)]) (pc1 := 1133) dL_law_1131 (by decide) rfl rfl ?_
  refine JX_aload_n (i := 2) (q := 4) (pc1 := 1134) dL_law_1133 rfl rfl rfl ?_
  refine JX_aload_n (i := 0) (q := 6) (pc1 := 1135) dL_law_1134 rfl rfl rfl ?_
  refine JX_iload (i := 5) (q := 1) (pc1 := 1137) dL_law_1135 rfl rfl ?_
  refine JX_iconst (v := 1) (pc1 := 1138) dL_law_1137 (by decide) rfl ?_
  refine JX_iadd (pc1 := 1139) dL_law_1138 rfl ?_
  refine JX_eqI (y := nI (4 * n + 1)) (nI_add (4 * n) 1) ?_
  refine JX_sld (x := xs (4 * n + 1)) (pc1 := 1140) hx hbl (Nat.not_le.mpr hbl) (vp_in_nI (by omega) (by omega)) (by rw [nI_clamp (by omega)]) dL_law_1139 rfl ?_
  obtain ⟨b9, μ9, hM, hc9, hb9, hr9, hZ9⟩ := rC_lose (l := l) (D := D) (tc := tc) (sa := sa) (ad := adr) (a1 := xs (4 * n + 1)) hIR hr hZ hn
  refine JX_mixAM (mc := 0) (ms := 0) (o := some (.int b9)) (μ1 := μ9) (pc1 := 1143) (st := []) (st1 := [.int b9]) (ce := 1000 + 300 * n + 1) (sl := 10000 + 5000 * n + 6) hI1 mxL_R (J_hV (st := []) (As := [.int (xs (4 * n + 1))]) (hM) wcX7_lose rfl wlL_165 (mxA_a (by decide)).symm (mxE_a eR0) rfl rfl rfl ⟨Nat.le_of_ble_eq_true rfl, Nat.le_of_ble_eq_true rfl⟩ ⟨by show 1000 + 300 * n + 1 + 0 ≤ 603072; omega, by show 10000 + 5000 * n + 6 + 0 ≤ 7219305; omega⟩ (Nat.le_of_ble_eq_true rfl) dL_law_1140) rfl rfl rfl rfl ?_
  refine JX_istore (i := 7) (lv1 := [(7, .int b9), (6, .int (nI (zaLose S (xs (4 * n + 1)).toInt).1)), (5, .int (nI (4 * n))), (4, .ref x2), (3, .ref x1), (2, .ref (adr 0 0)), (1, .ref a0), (0, .ref b)]) (pc1 := 1145) dL_law_1143 (by decide) rfl rfl ?_
  refine JX_aload_n (i := 2) (q := 5) (pc1 := 1146) dL_law_1145 rfl rfl rfl ?_
  refine JX_mixAM (mc := 0) (ms := 0) (o := some (.int (μ9 0 0 0))) (μ1 := μ9) (pc1 := 1149) (st := []) (st1 := [.int (μ9 0 0 0)]) (ce := 1000 + 300 * n + 1) (sl := 10000 + 5000 * n + 6) hI1 mxL_R (J_hV (st := []) (As := []) (rC_thrown hIR) wcX7_thrown rfl wlL_114 (mxA_a (by decide)).symm (mxE_a eR0) rfl rfl rfl ⟨Nat.le_of_ble_eq_true rfl, Nat.le_of_ble_eq_true rfl⟩ ⟨by show 1000 + 300 * n + 1 + 0 ≤ 603072; omega, by show 10000 + 5000 * n + 6 + 0 ≤ 7219305; omega⟩ (Nat.le_of_ble_eq_true rfl) dL_law_1146) rfl rfl rfl rfl ?_
  refine JX_iload (i := 6) (q := 1) (pc1 := 1151) dL_law_1149 rfl rfl ?_
  refine JX_icmp_eq (tgt := 1156) (pc1 := 1154) dL_law_1151 (by decide) (fun qq => ?_) rfl (fun qq => absurd (th_eq hc9 (Nat.le_trans (zc_Lose (S := S) (w := (xs (4 * n + 1)).toInt)) (Nat.le_of_ble_eq_true rfl))) qq)
  refine JX_iload (i := 6) (q := 1) (pc1 := 1158) dL_law_1156 rfl rfl ?_
  refine JX_if_ne (tgt := 1173) (pc1 := 1161) dL_law_1158 (by decide) (fun qq => ?_) rfl (fun qq => ?_)
  · skip
    refine JX_goto (tgt := 1748) dL_law_1173 (by decide) ?_
    exact JX_sub [2, 3, 4, 5, 6, 7] rfl (JX_widen (by omega) (by omega) (hN _ _ _ _ _ _ _ _ _ _ _ _ _ hS1 hr9 hZ9 hI1))
  · skip
    have h0 := th_0 qq (Nat.le_trans (zc_Lose (S := S) (w := (xs (4 * n + 1)).toInt)) (Nat.le_of_ble_eq_true rfl))
    obtain ⟨r9, rfl, hr0⟩ := hv h0
    have e9 : r9 = b9 := Int32.toInt_inj.mp (hr0.trans (hb9 h0).symm)
    rw [e9]
    refine JX_aload_n (i := 3) (q := 4) (pc1 := 1162) dL_law_1161 rfl rfl rfl ?_
    refine JX_iconst (v := 0) (pc1 := 1163) dL_law_1162 (by decide) rfl ?_
    refine JX_lald (pc1 := 1164) dL_law_1163 rfl ?_
    refine JX_iload (i := 7) (q := 0) (pc1 := 1166) dL_law_1164 rfl rfl ?_
    refine JX_i2l (v := (b9).toInt64) (pc1 := 1167) dL_law_1166 rfl rfl ?_
    refine JX_lcmp (v := 0) (pc1 := 1168) dL_law_1167 (lg_self _) rfl ?_
    refine JX_if_eq (tgt := 1173) (pc1 := 1171) dL_law_1168 (by decide) (fun qq => ?_) rfl (fun qq => absurd (rfl) qq)
    refine JX_goto (tgt := 1748) dL_law_1173 (by decide) ?_
    exact JX_sub [2, 3, 4, 5, 6, 7] rfl (JX_widen (by omega) (by omega) (hN _ _ _ _ _ _ _ _ _ _ _ _ _ hS1 hr9 hZ9 hI1))
theorem lwC_leader (hlz : l.stackTraces = false) (hx : va_X b L xs s s.heap) (hbl : b < s.heap.size) (hL : 4 * n + 4 ≤ L) (hL2 : L ≤ 2048) (hI : gI (mxE gE_R E) (mxA adr ad)) (hS : cSt a0 S sv β len T E kd ad rh μc) (hr : rSt n S sv β len T μr) (hZ : lJ n S sv) (hN : lwN p l e s m below meth c D tc sa cJ cD x1 x2 adr b Q a0 (n + 1) (4 * n)) : JL p l e s m below meth c D tc sa cJ cD x1 x2 adr b Q E kd ad rh μr μc v8 d8 (1000 + 300 * n) (10000 + 5000 * n) 1176 [(5, .int (nI (4 * n))), (4, .ref x2), (3, .ref x1), (2, .ref (adr 0 0)), (1, .ref a0), (0, .ref b)] [] := by
  have hn : n ≤ 600 := by omega
  have hIR : gI gE_R adr := gI_mxa mxL_R.1 hI
  refine JX_aload_n (i := 1) (q := 4) (pc1 := 1177) dL_law_1176 rfl rfl rfl ?_
  refine JX_aload_n (i := 3) (q := 2) (pc1 := 1178) dL_law_1177 rfl rfl rfl ?_
  refine JX_mixBW (ce := 1000 + 300 * n + 1) (sl := 10000 + 5000 * n + 6) (pc1 := 1181) (st := []) (As := [.ref a0, .ref x1]) hI mxL_R (lW_leader hlz hS hZ.1 hn) wwL_leader wlL_166 rfl ⟨Nat.le_of_ble_eq_true rfl, Nat.le_of_ble_eq_true rfl⟩ ⟨by show 1000 + 300 * n + 1 ≤ 603072; omega, by show 10000 + 5000 * n + 6 ≤ 7219305; omega⟩ (Nat.le_of_ble_eq_true rfl) dL_law_1178 rfl rfl rfl (fun o E1 kd1 ad1 rh1 μ1 w8 e8 hp hI1 => ?_)
  obtain ⟨rfl, hS1, hv⟩ := hp
  show JL p l e s m below meth c D tc sa cJ cD x1 x2 adr b Q E1 kd1 ad1 rh1 μr μ1 w8 e8 (1000 + 300 * n + 1) (10000 + 5000 * n + 6) 1181 [(5, .int (nI (4 * n))), (4, .ref x2), (3, .ref x1), (2, .ref (adr 0 0)), (1, .ref a0), (0, .ref b)] [.int (nI (zaLeader S).1)]
  refine JX_istore (i := 6) (lv1 := [(6, .int (nI (zaLeader S).1)), (5, .int (nI (4 * n))), (4, .ref x2), (3, .ref x1), (2, .ref (adr 0 0)), (1, .ref a0), (0, .ref b)]) (pc1 := 1183) dL_law_1181 (by decide) rfl rfl ?_
  refine JX_aload_n (i := 2) (q := 4) (pc1 := 1184) dL_law_1183 rfl rfl rfl ?_
  obtain ⟨b9, μ9, hM, hc9, hb9, hr9, hZ9⟩ := rC_leader (l := l) (D := D) (tc := tc) (sa := sa) (ad := adr) hIR hr hZ hn
  refine JX_mixAM (mc := 0) (ms := 0) (o := some (.int b9)) (μ1 := μ9) (pc1 := 1187) (st := []) (st1 := [.int b9]) (ce := 1000 + 300 * n + 1) (sl := 10000 + 5000 * n + 6) hI1 mxL_R (J_hV (st := []) (As := []) (hM) wcX7_leader rfl wlL_169 (mxA_a (by decide)).symm (mxE_a eR0) rfl rfl rfl ⟨Nat.le_of_ble_eq_true rfl, Nat.le_of_ble_eq_true rfl⟩ ⟨by show 1000 + 300 * n + 1 + 0 ≤ 603072; omega, by show 10000 + 5000 * n + 6 + 0 ≤ 7219305; omega⟩ (Nat.le_of_ble_eq_true rfl) dL_law_1184) rfl rfl rfl rfl ?_
  refine JX_istore (i := 7) (lv1 := [(7, .int b9), (6, .int (nI (zaLeader S).1)), (5, .int (nI (4 * n))), (4, .ref x2), (3, .ref x1), (2, .ref (adr 0 0)), (1, .ref a0), (0, .ref b)]) (pc1 := 1189) dL_law_1187 (by decide) rfl rfl ?_
  refine JX_aload_n (i := 2) (q := 5) (pc1 := 1190) dL_law_1189 rfl rfl rfl ?_
  refine JX_mixAM (mc := 0) (ms := 0) (o := some (.int (μ9 0 0 0))) (μ1 := μ9) (pc1 := 1193) (st := []) (st1 := [.int (μ9 0 0 0)]) (ce := 1000 + 300 * n + 1) (sl := 10000 + 5000 * n + 6) hI1 mxL_R (J_hV (st := []) (As := []) (rC_thrown hIR) wcX7_thrown rfl wlL_114 (mxA_a (by decide)).symm (mxE_a eR0) rfl rfl rfl ⟨Nat.le_of_ble_eq_true rfl, Nat.le_of_ble_eq_true rfl⟩ ⟨by show 1000 + 300 * n + 1 + 0 ≤ 603072; omega, by show 10000 + 5000 * n + 6 + 0 ≤ 7219305; omega⟩ (Nat.le_of_ble_eq_true rfl) dL_law_1190) rfl rfl rfl rfl ?_
  refine JX_iload (i := 6) (q := 1) (pc1 := 1195) dL_law_1193 rfl rfl ?_
  refine JX_icmp_eq (tgt := 1200) (pc1 := 1198) dL_law_1195 (by decide) (fun qq => ?_) rfl (fun qq => absurd (th_eq hc9 (Nat.le_trans (zc_Leader (S := S)) (Nat.le_of_ble_eq_true rfl))) qq)
  refine JX_iload (i := 6) (q := 1) (pc1 := 1202) dL_law_1200 rfl rfl ?_
  refine JX_if_ne (tgt := 1217) (pc1 := 1205) dL_law_1202 (by decide) (fun qq => ?_) rfl (fun qq => ?_)
  · skip
    refine JX_goto (tgt := 1748) dL_law_1217 (by decide) ?_
    exact JX_sub [2, 3, 4, 5, 6, 7] rfl (JX_widen (by omega) (by omega) (hN _ _ _ _ _ _ _ _ _ _ _ _ _ hS1 hr9 hZ9 hI1))
  · skip
    have h0 := th_0 qq (Nat.le_trans (zc_Leader (S := S)) (Nat.le_of_ble_eq_true rfl))
    obtain ⟨r9, rfl, hr0⟩ := hv h0
    have e9 : r9 = b9 := Int32.toInt_inj.mp (hr0.trans (hb9 h0).symm)
    rw [e9]
    refine JX_aload_n (i := 3) (q := 4) (pc1 := 1206) dL_law_1205 rfl rfl rfl ?_
    refine JX_iconst (v := 0) (pc1 := 1207) dL_law_1206 (by decide) rfl ?_
    refine JX_lald (pc1 := 1208) dL_law_1207 rfl ?_
    refine JX_iload (i := 7) (q := 0) (pc1 := 1210) dL_law_1208 rfl rfl ?_
    refine JX_i2l (v := (b9).toInt64) (pc1 := 1211) dL_law_1210 rfl rfl ?_
    refine JX_lcmp (v := 0) (pc1 := 1212) dL_law_1211 (lg_self _) rfl ?_
    refine JX_if_eq (tgt := 1217) (pc1 := 1215) dL_law_1212 (by decide) (fun qq => ?_) rfl (fun qq => absurd (rfl) qq)
    refine JX_goto (tgt := 1748) dL_law_1217 (by decide) ?_
    exact JX_sub [2, 3, 4, 5, 6, 7] rfl (JX_widen (by omega) (by omega) (hN _ _ _ _ _ _ _ _ _ _ _ _ _ hS1 hr9 hZ9 hI1))
theorem lwC_winner (hlz : l.stackTraces = false) (hx : va_X b L xs s s.heap) (hbl : b < s.heap.size) (hL : 4 * n + 4 ≤ L) (hL2 : L ≤ 2048) (hI : gI (mxE gE_R E) (mxA adr ad)) (hS : cSt a0 S sv β len T E kd ad rh μc) (hr : rSt n S sv β len T μr) (hZ : lJ n S sv) (hN : lwN p l e s m below meth c D tc sa cJ cD x1 x2 adr b Q a0 (n + 1) (4 * n)) : JL p l e s m below meth c D tc sa cJ cD x1 x2 adr b Q E kd ad rh μr μc v8 d8 (1000 + 300 * n) (10000 + 5000 * n) 1220 [(5, .int (nI (4 * n))), (4, .ref x2), (3, .ref x1), (2, .ref (adr 0 0)), (1, .ref a0), (0, .ref b)] [] := by
  have hn : n ≤ 600 := by omega
  have hIR : gI gE_R adr := gI_mxa mxL_R.1 hI
  refine JX_aload_n (i := 1) (q := 4) (pc1 := 1221) dL_law_1220 rfl rfl rfl ?_
  refine JX_aload_n (i := 0) (q := 5) (pc1 := 1222) dL_law_1221 rfl rfl rfl ?_
  refine JX_iload (i := 5) (q := 0) (pc1 := 1224) dL_law_1222 rfl rfl ?_
  refine JX_iconst (v := 1) (pc1 := 1225) dL_law_1224 (by decide) rfl ?_
  refine JX_iadd (pc1 := 1226) dL_law_1225 rfl ?_
  refine JX_eqI (y := nI (4 * n + 1)) (nI_add (4 * n) 1) ?_
  refine JX_sld (x := xs (4 * n + 1)) (pc1 := 1227) hx hbl (Nat.not_le.mpr hbl) (vp_in_nI (by omega) (by omega)) (by rw [nI_clamp (by omega)]) dL_law_1226 rfl ?_
  refine JX_aload_n (i := 3) (q := 2) (pc1 := 1228) dL_law_1227 rfl rfl rfl ?_
  refine JX_mixBW (ce := 1000 + 300 * n + 1) (sl := 10000 + 5000 * n + 6) (pc1 := 1231) (st := []) (As := [.ref a0, .int (xs (4 * n + 1)), .ref x1]) hI mxL_R (lW_winner (a1 := xs (4 * n + 1)) hlz hS hZ.1 hn) wwL_winner wlL_170 rfl ⟨Nat.le_of_ble_eq_true rfl, Nat.le_of_ble_eq_true rfl⟩ ⟨by show 1000 + 300 * n + 1 ≤ 603072; omega, by show 10000 + 5000 * n + 6 ≤ 7219305; omega⟩ (Nat.le_of_ble_eq_true rfl) dL_law_1228 rfl rfl rfl (fun o E1 kd1 ad1 rh1 μ1 w8 e8 hp hI1 => ?_)
  obtain ⟨rfl, hS1, hv⟩ := hp
  show JL p l e s m below meth c D tc sa cJ cD x1 x2 adr b Q E1 kd1 ad1 rh1 μr μ1 w8 e8 (1000 + 300 * n + 1) (10000 + 5000 * n + 6) 1231 [(5, .int (nI (4 * n))), (4, .ref x2), (3, .ref x1), (2, .ref (adr 0 0)), (1, .ref a0), (0, .ref b)] [.int (nI (zaWin S (xs (4 * n + 1)).toInt).1)]
  refine JX_istore (i := 6) (lv1 := [(6, .int (nI (zaWin S (xs (4 * n + 1)).toInt).1)), (5, .int (nI (4 * n))), (4, .ref x2), (3, .ref x1), (2, .ref (adr 0 0)), (1, .ref a0), (0, .ref b)]) (pc1 := 1233) dL_law_1231 (by decide) rfl rfl ?_
  refine JX_aload_n (i := 2) (q := 4) (pc1 := 1234) dL_law_1233 rfl rfl rfl ?_
  refine JX_aload_n (i := 0) (q := 6) (pc1 := 1235) dL_law_1234 rfl rfl rfl ?_
  refine JX_iload (i := 5) (q := 1) (pc1 := 1237) dL_law_1235 rfl rfl ?_
  refine JX_iconst (v := 1) (pc1 := 1238) dL_law_1237 (by decide) rfl ?_
  refine JX_iadd (pc1 := 1239) dL_law_1238 rfl ?_
  refine JX_eqI (y := nI (4 * n + 1)) (nI_add (4 * n) 1) ?_
  refine JX_sld (x := xs (4 * n + 1)) (pc1 := 1240) hx hbl (Nat.not_le.mpr hbl) (vp_in_nI (by omega) (by omega)) (by rw [nI_clamp (by omega)]) dL_law_1239 rfl ?_
  obtain ⟨b9, μ9, hM, hc9, hb9, hr9, hZ9⟩ := rC_winner (l := l) (D := D) (tc := tc) (sa := sa) (ad := adr) (a1 := xs (4 * n + 1)) hIR hr hZ hn
  refine JX_mixAM (mc := 0) (ms := 0) (o := some (.int b9)) (μ1 := μ9) (pc1 := 1243) (st := []) (st1 := [.int b9]) (ce := 1000 + 300 * n + 1) (sl := 10000 + 5000 * n + 6) hI1 mxL_R (J_hV (st := []) (As := [.int (xs (4 * n + 1))]) (hM) wcX7_winner rfl wlL_172 (mxA_a (by decide)).symm (mxE_a eR0) rfl rfl rfl ⟨Nat.le_of_ble_eq_true rfl, Nat.le_of_ble_eq_true rfl⟩ ⟨by show 1000 + 300 * n + 1 + 0 ≤ 603072; omega, by show 10000 + 5000 * n + 6 + 0 ≤ 7219305; omega⟩ (Nat.le_of_ble_eq_true rfl) dL_law_1240) rfl rfl rfl rfl ?_
  refine JX_istore (i := 7) (lv1 := [(7, .int b9), (6, .int (nI (zaWin S (xs (4 * n + 1)).toInt).1)), (5, .int (nI (4 * n))), (4, .ref x2), (3, .ref x1), (2, .ref (adr 0 0)), (1, .ref a0), (0, .ref b)]) (pc1 := 1245) dL_law_1243 (by decide) rfl rfl ?_
  refine JX_aload_n (i := 2) (q := 5) (pc1 := 1246) dL_law_1245 rfl rfl rfl ?_
  refine JX_mixAM (mc := 0) (ms := 0) (o := some (.int (μ9 0 0 0))) (μ1 := μ9) (pc1 := 1249) (st := []) (st1 := [.int (μ9 0 0 0)]) (ce := 1000 + 300 * n + 1) (sl := 10000 + 5000 * n + 6) hI1 mxL_R (J_hV (st := []) (As := []) (rC_thrown hIR) wcX7_thrown rfl wlL_114 (mxA_a (by decide)).symm (mxE_a eR0) rfl rfl rfl ⟨Nat.le_of_ble_eq_true rfl, Nat.le_of_ble_eq_true rfl⟩ ⟨by show 1000 + 300 * n + 1 + 0 ≤ 603072; omega, by show 10000 + 5000 * n + 6 + 0 ≤ 7219305; omega⟩ (Nat.le_of_ble_eq_true rfl) dL_law_1246) rfl rfl rfl rfl ?_
  refine JX_iload (i := 6) (q := 1) (pc1 := 1251) dL_law_1249 rfl rfl ?_
  refine JX_icmp_eq (tgt := 1256) (pc1 := 1254) dL_law_1251 (by decide) (fun qq => ?_) rfl (fun qq => absurd (th_eq hc9 (Nat.le_trans (zc_Win (S := S) (t := (xs (4 * n + 1)).toInt)) (Nat.le_of_ble_eq_true rfl))) qq)
  refine JX_iload (i := 6) (q := 1) (pc1 := 1258) dL_law_1256 rfl rfl ?_
  refine JX_if_ne (tgt := 1273) (pc1 := 1261) dL_law_1258 (by decide) (fun qq => ?_) rfl (fun qq => ?_)
  · skip
    refine JX_goto (tgt := 1748) dL_law_1273 (by decide) ?_
    exact JX_sub [2, 3, 4, 5, 6, 7] rfl (JX_widen (by omega) (by omega) (hN _ _ _ _ _ _ _ _ _ _ _ _ _ hS1 hr9 hZ9 hI1))
  · skip
    have h0 := th_0 qq (Nat.le_trans (zc_Win (S := S) (t := (xs (4 * n + 1)).toInt)) (Nat.le_of_ble_eq_true rfl))
    obtain ⟨r9, rfl, hr0⟩ := hv h0
    have e9 : r9 = b9 := Int32.toInt_inj.mp (hr0.trans (hb9 h0).symm)
    rw [e9]
    refine JX_aload_n (i := 3) (q := 4) (pc1 := 1262) dL_law_1261 rfl rfl rfl ?_
    refine JX_iconst (v := 0) (pc1 := 1263) dL_law_1262 (by decide) rfl ?_
    refine JX_lald (pc1 := 1264) dL_law_1263 rfl ?_
    refine JX_iload (i := 7) (q := 0) (pc1 := 1266) dL_law_1264 rfl rfl ?_
    refine JX_i2l (v := (b9).toInt64) (pc1 := 1267) dL_law_1266 rfl rfl ?_
    refine JX_lcmp (v := 0) (pc1 := 1268) dL_law_1267 (lg_self _) rfl ?_
    refine JX_if_eq (tgt := 1273) (pc1 := 1271) dL_law_1268 (by decide) (fun qq => ?_) rfl (fun qq => absurd (rfl) qq)
    refine JX_goto (tgt := 1748) dL_law_1273 (by decide) ?_
    exact JX_sub [2, 3, 4, 5, 6, 7] rfl (JX_widen (by omega) (by omega) (hN _ _ _ _ _ _ _ _ _ _ _ _ _ hS1 hr9 hZ9 hI1))
theorem lwC_alike (hlz : l.stackTraces = false) (hx : va_X b L xs s s.heap) (hbl : b < s.heap.size) (hL : 4 * n + 4 ≤ L) (hL2 : L ≤ 2048) (hI : gI (mxE gE_R E) (mxA adr ad)) (hS : cSt a0 S sv β len T E kd ad rh μc) (hr : rSt n S sv β len T μr) (hZ : lJ n S sv) (hN : lwN p l e s m below meth c D tc sa cJ cD x1 x2 adr b Q a0 (n + 1) (4 * n)) : JL p l e s m below meth c D tc sa cJ cD x1 x2 adr b Q E kd ad rh μr μc v8 d8 (1000 + 300 * n) (10000 + 5000 * n) 1276 [(5, .int (nI (4 * n))), (4, .ref x2), (3, .ref x1), (2, .ref (adr 0 0)), (1, .ref a0), (0, .ref b)] [] := by
  have hn : n ≤ 600 := by omega
  have hIR : gI gE_R adr := gI_mxa mxL_R.1 hI
  refine JX_aload_n (i := 1) (q := 4) (pc1 := 1277) dL_law_1276 rfl rfl rfl ?_
  refine JX_aload_n (i := 0) (q := 5) (pc1 := 1278) dL_law_1277 rfl rfl rfl ?_
  refine JX_iload (i := 5) (q := 0) (pc1 := 1280) dL_law_1278 rfl rfl ?_
  refine JX_iconst (v := 1) (pc1 := 1281) dL_law_1280 (by decide) rfl ?_
  refine JX_iadd (pc1 := 1282) dL_law_1281 rfl ?_
  refine JX_eqI (y := nI (4 * n + 1)) (nI_add (4 * n) 1) ?_
  refine JX_sld (x := xs (4 * n + 1)) (pc1 := 1283) hx hbl (Nat.not_le.mpr hbl) (vp_in_nI (by omega) (by omega)) (by rw [nI_clamp (by omega)]) dL_law_1282 rfl ?_
  refine JX_aload_n (i := 0) (q := 5) (pc1 := 1284) dL_law_1283 rfl rfl rfl ?_
  refine JX_iload (i := 5) (q := 0) (pc1 := 1286) dL_law_1284 rfl rfl ?_
  refine JX_iconst (v := 2) (pc1 := 1287) dL_law_1286 (by decide) rfl ?_
  refine JX_iadd (pc1 := 1288) dL_law_1287 rfl ?_
  refine JX_eqI (y := nI (4 * n + 2)) (nI_add (4 * n) 2) ?_
  refine JX_sld (x := xs (4 * n + 2)) (pc1 := 1289) hx hbl (Nat.not_le.mpr hbl) (vp_in_nI (by omega) (by omega)) (by rw [nI_clamp (by omega)]) dL_law_1288 rfl ?_
  refine JX_aload_n (i := 3) (q := 2) (pc1 := 1290) dL_law_1289 rfl rfl rfl ?_
  refine JX_mixBW (ce := 1000 + 300 * n + 1) (sl := 10000 + 5000 * n + 6) (pc1 := 1293) (st := []) (As := [.ref a0, .int (xs (4 * n + 1)), .int (xs (4 * n + 2)), .ref x1]) hI mxL_R (lW_alike (a1 := xs (4 * n + 1)) (a2 := xs (4 * n + 2)) hlz hS hZ.1 hn) wwL_alike wlL_173 rfl ⟨Nat.le_of_ble_eq_true rfl, Nat.le_of_ble_eq_true rfl⟩ ⟨by show 1000 + 300 * n + 1 ≤ 603072; omega, by show 10000 + 5000 * n + 6 ≤ 7219305; omega⟩ (Nat.le_of_ble_eq_true rfl) dL_law_1290 rfl rfl rfl (fun o E1 kd1 ad1 rh1 μ1 w8 e8 hp hI1 => ?_)
  obtain ⟨rfl, hS1, hv⟩ := hp
  show JL p l e s m below meth c D tc sa cJ cD x1 x2 adr b Q E1 kd1 ad1 rh1 μr μ1 w8 e8 (1000 + 300 * n + 1) (10000 + 5000 * n + 6) 1293 [(5, .int (nI (4 * n))), (4, .ref x2), (3, .ref x1), (2, .ref (adr 0 0)), (1, .ref a0), (0, .ref b)] [.int (nI (zaAlike S (xs (4 * n + 1)).toInt (xs (4 * n + 2)).toInt).1)]
  refine JX_istore (i := 6) (lv1 := [(6, .int (nI (zaAlike S (xs (4 * n + 1)).toInt (xs (4 * n + 2)).toInt).1)), (5, .int (nI (4 * n))), (4, .ref x2), (3, .ref x1), (2, .ref (adr 0 0)), (1, .ref a0), (0, .ref b)]) (pc1 := 1295) dL_law_1293 (by decide) rfl rfl ?_
  refine JX_aload_n (i := 2) (q := 4) (pc1 := 1296) dL_law_1295 rfl rfl rfl ?_
  refine JX_aload_n (i := 0) (q := 6) (pc1 := 1297) dL_law_1296 rfl rfl rfl ?_
  refine JX_iload (i := 5) (q := 1) (pc1 := 1299) dL_law_1297 rfl rfl ?_
  refine JX_iconst (v := 1) (pc1 := 1300) dL_law_1299 (by decide) rfl ?_
  refine JX_iadd (pc1 := 1301) dL_law_1300 rfl ?_
  refine JX_eqI (y := nI (4 * n + 1)) (nI_add (4 * n) 1) ?_
  refine JX_sld (x := xs (4 * n + 1)) (pc1 := 1302) hx hbl (Nat.not_le.mpr hbl) (vp_in_nI (by omega) (by omega)) (by rw [nI_clamp (by omega)]) dL_law_1301 rfl ?_
  refine JX_aload_n (i := 0) (q := 6) (pc1 := 1303) dL_law_1302 rfl rfl rfl ?_
  refine JX_iload (i := 5) (q := 1) (pc1 := 1305) dL_law_1303 rfl rfl ?_
  refine JX_iconst (v := 2) (pc1 := 1306) dL_law_1305 (by decide) rfl ?_
  refine JX_iadd (pc1 := 1307) dL_law_1306 rfl ?_
  refine JX_eqI (y := nI (4 * n + 2)) (nI_add (4 * n) 2) ?_
  refine JX_sld (x := xs (4 * n + 2)) (pc1 := 1308) hx hbl (Nat.not_le.mpr hbl) (vp_in_nI (by omega) (by omega)) (by rw [nI_clamp (by omega)]) dL_law_1307 rfl ?_
  obtain ⟨b9, μ9, hM, hc9, hb9, hr9, hZ9⟩ := rC_alike (l := l) (D := D) (tc := tc) (sa := sa) (ad := adr) (a1 := xs (4 * n + 1)) (a2 := xs (4 * n + 2)) hIR hr hZ hn
  refine JX_mixAM (mc := 0) (ms := 0) (o := some (.int b9)) (μ1 := μ9) (pc1 := 1311) (st := []) (st1 := [.int b9]) (ce := 1000 + 300 * n + 1) (sl := 10000 + 5000 * n + 6) hI1 mxL_R (J_hV (st := []) (As := [.int (xs (4 * n + 1)), .int (xs (4 * n + 2))]) (hM) wcX7_alike rfl wlL_175 (mxA_a (by decide)).symm (mxE_a eR0) rfl rfl rfl ⟨Nat.le_of_ble_eq_true rfl, Nat.le_of_ble_eq_true rfl⟩ ⟨by show 1000 + 300 * n + 1 + 0 ≤ 603072; omega, by show 10000 + 5000 * n + 6 + 0 ≤ 7219305; omega⟩ (Nat.le_of_ble_eq_true rfl) dL_law_1308) rfl rfl rfl rfl ?_
  refine JX_istore (i := 7) (lv1 := [(7, .int b9), (6, .int (nI (zaAlike S (xs (4 * n + 1)).toInt (xs (4 * n + 2)).toInt).1)), (5, .int (nI (4 * n))), (4, .ref x2), (3, .ref x1), (2, .ref (adr 0 0)), (1, .ref a0), (0, .ref b)]) (pc1 := 1313) dL_law_1311 (by decide) rfl rfl ?_
  refine JX_aload_n (i := 2) (q := 5) (pc1 := 1314) dL_law_1313 rfl rfl rfl ?_
  refine JX_mixAM (mc := 0) (ms := 0) (o := some (.int (μ9 0 0 0))) (μ1 := μ9) (pc1 := 1317) (st := []) (st1 := [.int (μ9 0 0 0)]) (ce := 1000 + 300 * n + 1) (sl := 10000 + 5000 * n + 6) hI1 mxL_R (J_hV (st := []) (As := []) (rC_thrown hIR) wcX7_thrown rfl wlL_114 (mxA_a (by decide)).symm (mxE_a eR0) rfl rfl rfl ⟨Nat.le_of_ble_eq_true rfl, Nat.le_of_ble_eq_true rfl⟩ ⟨by show 1000 + 300 * n + 1 + 0 ≤ 603072; omega, by show 10000 + 5000 * n + 6 + 0 ≤ 7219305; omega⟩ (Nat.le_of_ble_eq_true rfl) dL_law_1314) rfl rfl rfl rfl ?_
  refine JX_iload (i := 6) (q := 1) (pc1 := 1319) dL_law_1317 rfl rfl ?_
  refine JX_icmp_eq (tgt := 1324) (pc1 := 1322) dL_law_1319 (by decide) (fun qq => ?_) rfl (fun qq => absurd (th_eq hc9 (Nat.le_trans (zc_Alike (S := S) (a := (xs (4 * n + 1)).toInt) (b := (xs (4 * n + 2)).toInt)) (Nat.le_of_ble_eq_true rfl))) qq)
  refine JX_iload (i := 6) (q := 1) (pc1 := 1326) dL_law_1324 rfl rfl ?_
  refine JX_if_ne (tgt := 1341) (pc1 := 1329) dL_law_1326 (by decide) (fun qq => ?_) rfl (fun qq => ?_)
  · skip
    refine JX_goto (tgt := 1748) dL_law_1341 (by decide) ?_
    exact JX_sub [2, 3, 4, 5, 6, 7] rfl (JX_widen (by omega) (by omega) (hN _ _ _ _ _ _ _ _ _ _ _ _ _ hS1 hr9 hZ9 hI1))
  · skip
    have h0 := th_0 qq (Nat.le_trans (zc_Alike (S := S) (a := (xs (4 * n + 1)).toInt) (b := (xs (4 * n + 2)).toInt)) (Nat.le_of_ble_eq_true rfl))
    obtain ⟨r9, rfl, hr0⟩ := hv h0
    have e9 : r9 = b9 := Int32.toInt_inj.mp (hr0.trans (hb9 h0).symm)
    rw [e9]
    refine JX_aload_n (i := 3) (q := 4) (pc1 := 1330) dL_law_1329 rfl rfl rfl ?_
    refine JX_iconst (v := 0) (pc1 := 1331) dL_law_1330 (by decide) rfl ?_
    refine JX_lald (pc1 := 1332) dL_law_1331 rfl ?_
    refine JX_iload (i := 7) (q := 0) (pc1 := 1334) dL_law_1332 rfl rfl ?_
    refine JX_i2l (v := (b9).toInt64) (pc1 := 1335) dL_law_1334 rfl rfl ?_
    refine JX_lcmp (v := 0) (pc1 := 1336) dL_law_1335 (lg_self _) rfl ?_
    refine JX_if_eq (tgt := 1341) (pc1 := 1339) dL_law_1336 (by decide) (fun qq => ?_) rfl (fun qq => absurd (rfl) qq)
    refine JX_goto (tgt := 1748) dL_law_1341 (by decide) ?_
    exact JX_sub [2, 3, 4, 5, 6, 7] rfl (JX_widen (by omega) (by omega) (hN _ _ _ _ _ _ _ _ _ _ _ _ _ hS1 hr9 hZ9 hI1))
theorem lwC_statistic (hlz : l.stackTraces = false) (hx : va_X b L xs s s.heap) (hbl : b < s.heap.size) (hL : 4 * n + 4 ≤ L) (hL2 : L ≤ 2048) (hI : gI (mxE gE_R E) (mxA adr ad)) (hS : cSt a0 S sv β len T E kd ad rh μc) (hr : rSt n S sv β len T μr) (hZ : lJ n S sv) (hN : lwN p l e s m below meth c D tc sa cJ cD x1 x2 adr b Q a0 (n + 1) (4 * n)) : JL p l e s m below meth c D tc sa cJ cD x1 x2 adr b Q E kd ad rh μr μc v8 d8 (1000 + 300 * n) (10000 + 5000 * n) 1344 [(5, .int (nI (4 * n))), (4, .ref x2), (3, .ref x1), (2, .ref (adr 0 0)), (1, .ref a0), (0, .ref b)] [] := by
  have hn : n ≤ 600 := by omega
  have hIR : gI gE_R adr := gI_mxa mxL_R.1 hI
  refine JX_aload_n (i := 1) (q := 4) (pc1 := 1345) dL_law_1344 rfl rfl rfl ?_
  refine JX_aload_n (i := 0) (q := 5) (pc1 := 1346) dL_law_1345 rfl rfl rfl ?_
  refine JX_iload (i := 5) (q := 0) (pc1 := 1348) dL_law_1346 rfl rfl ?_
  refine JX_iconst (v := 1) (pc1 := 1349) dL_law_1348 (by decide) rfl ?_
  refine JX_iadd (pc1 := 1350) dL_law_1349 rfl ?_
  refine JX_eqI (y := nI (4 * n + 1)) (nI_add (4 * n) 1) ?_
  refine JX_sld (x := xs (4 * n + 1)) (pc1 := 1351) hx hbl (Nat.not_le.mpr hbl) (vp_in_nI (by omega) (by omega)) (by rw [nI_clamp (by omega)]) dL_law_1350 rfl ?_
  refine JX_aload_n (i := 3) (q := 2) (pc1 := 1352) dL_law_1351 rfl rfl rfl ?_
  refine JX_mixBW (ce := 1000 + 300 * n + 1) (sl := 10000 + 5000 * n + 6) (pc1 := 1355) (st := []) (As := [.ref a0, .int (xs (4 * n + 1)), .ref x1]) hI mxL_R (lW_statistic (a1 := xs (4 * n + 1)) hlz hS hZ.1 hn) wwL_statistic wlL_176 rfl ⟨Nat.le_of_ble_eq_true rfl, Nat.le_of_ble_eq_true rfl⟩ ⟨by show 1000 + 300 * n + 1 ≤ 603072; omega, by show 10000 + 5000 * n + 6 ≤ 7219305; omega⟩ (Nat.le_of_ble_eq_true rfl) dL_law_1352 rfl rfl rfl (fun o E1 kd1 ad1 rh1 μ1 w8 e8 hp hI1 => ?_)
  obtain ⟨rfl, hS1, hv⟩ := hp
  show JL p l e s m below meth c D tc sa cJ cD x1 x2 adr b Q E1 kd1 ad1 rh1 μr μ1 w8 e8 (1000 + 300 * n + 1) (10000 + 5000 * n + 6) 1355 [(5, .int (nI (4 * n))), (4, .ref x2), (3, .ref x1), (2, .ref (adr 0 0)), (1, .ref a0), (0, .ref b)] [.int (nI (zaStat S (xs (4 * n + 1)).toInt).1)]
  refine JX_istore (i := 6) (lv1 := [(6, .int (nI (zaStat S (xs (4 * n + 1)).toInt).1)), (5, .int (nI (4 * n))), (4, .ref x2), (3, .ref x1), (2, .ref (adr 0 0)), (1, .ref a0), (0, .ref b)]) (pc1 := 1357) dL_law_1355 (by decide) rfl rfl ?_
  refine JX_aload_n (i := 2) (q := 4) (pc1 := 1358) dL_law_1357 rfl rfl rfl ?_
  refine JX_aload_n (i := 0) (q := 6) (pc1 := 1359) dL_law_1358 rfl rfl rfl ?_
  refine JX_iload (i := 5) (q := 1) (pc1 := 1361) dL_law_1359 rfl rfl ?_
  refine JX_iconst (v := 1) (pc1 := 1362) dL_law_1361 (by decide) rfl ?_
  refine JX_iadd (pc1 := 1363) dL_law_1362 rfl ?_
  refine JX_eqI (y := nI (4 * n + 1)) (nI_add (4 * n) 1) ?_
  refine JX_sld (x := xs (4 * n + 1)) (pc1 := 1364) hx hbl (Nat.not_le.mpr hbl) (vp_in_nI (by omega) (by omega)) (by rw [nI_clamp (by omega)]) dL_law_1363 rfl ?_
  obtain ⟨b9, μ9, hM, hc9, hb9, hr9, hZ9⟩ := rC_statistic (l := l) (D := D) (tc := tc) (sa := sa) (ad := adr) (a1 := xs (4 * n + 1)) hIR hr hZ hn
  refine JX_mixAM (mc := 0) (ms := 0) (o := some (.int b9)) (μ1 := μ9) (pc1 := 1367) (st := []) (st1 := [.int b9]) (ce := 1000 + 300 * n + 1) (sl := 10000 + 5000 * n + 6) hI1 mxL_R (J_hV (st := []) (As := [.int (xs (4 * n + 1))]) (hM) wcX7_statistic rfl wlL_178 (mxA_a (by decide)).symm (mxE_a eR0) rfl rfl rfl ⟨Nat.le_of_ble_eq_true rfl, Nat.le_of_ble_eq_true rfl⟩ ⟨by show 1000 + 300 * n + 1 + 0 ≤ 603072; omega, by show 10000 + 5000 * n + 6 + 0 ≤ 7219305; omega⟩ (Nat.le_of_ble_eq_true rfl) dL_law_1364) rfl rfl rfl rfl ?_
  refine JX_istore (i := 7) (lv1 := [(7, .int b9), (6, .int (nI (zaStat S (xs (4 * n + 1)).toInt).1)), (5, .int (nI (4 * n))), (4, .ref x2), (3, .ref x1), (2, .ref (adr 0 0)), (1, .ref a0), (0, .ref b)]) (pc1 := 1369) dL_law_1367 (by decide) rfl rfl ?_
  refine JX_aload_n (i := 2) (q := 5) (pc1 := 1370) dL_law_1369 rfl rfl rfl ?_
  refine JX_mixAM (mc := 0) (ms := 0) (o := some (.int (μ9 0 0 0))) (μ1 := μ9) (pc1 := 1373) (st := []) (st1 := [.int (μ9 0 0 0)]) (ce := 1000 + 300 * n + 1) (sl := 10000 + 5000 * n + 6) hI1 mxL_R (J_hV (st := []) (As := []) (rC_thrown hIR) wcX7_thrown rfl wlL_114 (mxA_a (by decide)).symm (mxE_a eR0) rfl rfl rfl ⟨Nat.le_of_ble_eq_true rfl, Nat.le_of_ble_eq_true rfl⟩ ⟨by show 1000 + 300 * n + 1 + 0 ≤ 603072; omega, by show 10000 + 5000 * n + 6 + 0 ≤ 7219305; omega⟩ (Nat.le_of_ble_eq_true rfl) dL_law_1370) rfl rfl rfl rfl ?_
  refine JX_iload (i := 6) (q := 1) (pc1 := 1375) dL_law_1373 rfl rfl ?_
  refine JX_icmp_eq (tgt := 1380) (pc1 := 1378) dL_law_1375 (by decide) (fun qq => ?_) rfl (fun qq => absurd (th_eq hc9 (Nat.le_trans (zc_Stat (S := S) (w := (xs (4 * n + 1)).toInt)) (Nat.le_of_ble_eq_true rfl))) qq)
  refine JX_iload (i := 6) (q := 1) (pc1 := 1382) dL_law_1380 rfl rfl ?_
  refine JX_if_ne (tgt := 1397) (pc1 := 1385) dL_law_1382 (by decide) (fun qq => ?_) rfl (fun qq => ?_)
  · skip
    refine JX_goto (tgt := 1748) dL_law_1397 (by decide) ?_
    exact JX_sub [2, 3, 4, 5, 6, 7] rfl (JX_widen (by omega) (by omega) (hN _ _ _ _ _ _ _ _ _ _ _ _ _ hS1 hr9 hZ9 hI1))
  · skip
    have h0 := th_0 qq (Nat.le_trans (zc_Stat (S := S) (w := (xs (4 * n + 1)).toInt)) (Nat.le_of_ble_eq_true rfl))
    obtain ⟨r9, rfl, hr0⟩ := hv h0
    have e9 : r9 = b9 := Int32.toInt_inj.mp (hr0.trans (hb9 h0).symm)
    rw [e9]
    refine JX_aload_n (i := 3) (q := 4) (pc1 := 1386) dL_law_1385 rfl rfl rfl ?_
    refine JX_iconst (v := 0) (pc1 := 1387) dL_law_1386 (by decide) rfl ?_
    refine JX_lald (pc1 := 1388) dL_law_1387 rfl ?_
    refine JX_iload (i := 7) (q := 0) (pc1 := 1390) dL_law_1388 rfl rfl ?_
    refine JX_i2l (v := (b9).toInt64) (pc1 := 1391) dL_law_1390 rfl rfl ?_
    refine JX_lcmp (v := 0) (pc1 := 1392) dL_law_1391 (lg_self _) rfl ?_
    refine JX_if_eq (tgt := 1397) (pc1 := 1395) dL_law_1392 (by decide) (fun qq => ?_) rfl (fun qq => absurd (rfl) qq)
    refine JX_goto (tgt := 1748) dL_law_1397 (by decide) ?_
    exact JX_sub [2, 3, 4, 5, 6, 7] rfl (JX_widen (by omega) (by omega) (hN _ _ _ _ _ _ _ _ _ _ _ _ _ hS1 hr9 hZ9 hI1))
theorem lwC_perform (hlz : l.stackTraces = false) (hx : va_X b L xs s s.heap) (hbl : b < s.heap.size) (hL : 4 * n + 4 ≤ L) (hL2 : L ≤ 2048) (hI : gI (mxE gE_R E) (mxA adr ad)) (hS : cSt a0 S sv β len T E kd ad rh μc) (hr : rSt n S sv β len T μr) (hZ : lJ n S sv) (hN : lwN p l e s m below meth c D tc sa cJ cD x1 x2 adr b Q a0 (n + 1) (4 * n)) : JL p l e s m below meth c D tc sa cJ cD x1 x2 adr b Q E kd ad rh μr μc v8 d8 (1000 + 300 * n) (10000 + 5000 * n) 1535 [(5, .int (nI (4 * n))), (4, .ref x2), (3, .ref x1), (2, .ref (adr 0 0)), (1, .ref a0), (0, .ref b)] [] := by
  have hn : n ≤ 600 := by omega
  have hIR : gI gE_R adr := gI_mxa mxL_R.1 hI
  refine JX_aload_n (i := 1) (q := 4) (pc1 := 1536) dL_law_1535 rfl rfl rfl ?_
  refine JX_aload_n (i := 3) (q := 2) (pc1 := 1537) dL_law_1536 rfl rfl rfl ?_
  refine JX_mixBW (ce := 1000 + 300 * n + 1) (sl := 10000 + 5000 * n + 6) (pc1 := 1540) (st := []) (As := [.ref a0, .ref x1]) hI mxL_R (lW_perform hlz hS hZ.1 hn) wwL_perform wlL_187 rfl ⟨Nat.le_of_ble_eq_true rfl, Nat.le_of_ble_eq_true rfl⟩ ⟨by show 1000 + 300 * n + 1 ≤ 603072; omega, by show 10000 + 5000 * n + 6 ≤ 7219305; omega⟩ (Nat.le_of_ble_eq_true rfl) dL_law_1537 rfl rfl rfl (fun o E1 kd1 ad1 rh1 μ1 w8 e8 hp hI1 => ?_)
  obtain ⟨rfl, hS1, hv⟩ := hp
  show JL p l e s m below meth c D tc sa cJ cD x1 x2 adr b Q E1 kd1 ad1 rh1 μr μ1 w8 e8 (1000 + 300 * n + 1) (10000 + 5000 * n + 6) 1540 [(5, .int (nI (4 * n))), (4, .ref x2), (3, .ref x1), (2, .ref (adr 0 0)), (1, .ref a0), (0, .ref b)] [.int (nI (zaPerf β len S).1)]
  refine JX_istore (i := 6) (lv1 := [(6, .int (nI (zaPerf β len S).1)), (5, .int (nI (4 * n))), (4, .ref x2), (3, .ref x1), (2, .ref (adr 0 0)), (1, .ref a0), (0, .ref b)]) (pc1 := 1542) dL_law_1540 (by decide) rfl rfl ?_
  refine JX_aload_n (i := 2) (q := 4) (pc1 := 1543) dL_law_1542 rfl rfl rfl ?_
  obtain ⟨b9, μ9, hM, hc9, hb9, hr9, hZ9⟩ := rC_perform (l := l) (D := D) (tc := tc) (sa := sa) (ad := adr) hIR hr hZ hn
  refine JX_mixAM (mc := 0) (ms := 0) (o := some (.int b9)) (μ1 := μ9) (pc1 := 1546) (st := []) (st1 := [.int b9]) (ce := 1000 + 300 * n + 1) (sl := 10000 + 5000 * n + 6) hI1 mxL_R (J_hV (st := []) (As := []) (hM) wcX7_perform rfl wlL_189 (mxA_a (by decide)).symm (mxE_a eR0) rfl rfl rfl ⟨Nat.le_of_ble_eq_true rfl, Nat.le_of_ble_eq_true rfl⟩ ⟨by show 1000 + 300 * n + 1 + 0 ≤ 603072; omega, by show 10000 + 5000 * n + 6 + 0 ≤ 7219305; omega⟩ (Nat.le_of_ble_eq_true rfl) dL_law_1543) rfl rfl rfl rfl ?_
  refine JX_istore (i := 7) (lv1 := [(7, .int b9), (6, .int (nI (zaPerf β len S).1)), (5, .int (nI (4 * n))), (4, .ref x2), (3, .ref x1), (2, .ref (adr 0 0)), (1, .ref a0), (0, .ref b)]) (pc1 := 1548) dL_law_1546 (by decide) rfl rfl ?_
  refine JX_aload_n (i := 2) (q := 5) (pc1 := 1549) dL_law_1548 rfl rfl rfl ?_
  refine JX_mixAM (mc := 0) (ms := 0) (o := some (.int (μ9 0 0 0))) (μ1 := μ9) (pc1 := 1552) (st := []) (st1 := [.int (μ9 0 0 0)]) (ce := 1000 + 300 * n + 1) (sl := 10000 + 5000 * n + 6) hI1 mxL_R (J_hV (st := []) (As := []) (rC_thrown hIR) wcX7_thrown rfl wlL_114 (mxA_a (by decide)).symm (mxE_a eR0) rfl rfl rfl ⟨Nat.le_of_ble_eq_true rfl, Nat.le_of_ble_eq_true rfl⟩ ⟨by show 1000 + 300 * n + 1 + 0 ≤ 603072; omega, by show 10000 + 5000 * n + 6 + 0 ≤ 7219305; omega⟩ (Nat.le_of_ble_eq_true rfl) dL_law_1549) rfl rfl rfl rfl ?_
  refine JX_iload (i := 6) (q := 1) (pc1 := 1554) dL_law_1552 rfl rfl ?_
  refine JX_icmp_eq (tgt := 1559) (pc1 := 1557) dL_law_1554 (by decide) (fun qq => ?_) rfl (fun qq => absurd (th_eq hc9 (Nat.le_trans (zc_Perf (S := S) (β := β) (len := len)) (Nat.le_of_ble_eq_true rfl))) qq)
  refine JX_iload (i := 6) (q := 1) (pc1 := 1561) dL_law_1559 rfl rfl ?_
  refine JX_if_ne (tgt := 1576) (pc1 := 1564) dL_law_1561 (by decide) (fun qq => ?_) rfl (fun qq => ?_)
  · skip
    refine JX_goto (tgt := 1748) dL_law_1576 (by decide) ?_
    exact JX_sub [2, 3, 4, 5, 6, 7] rfl (JX_widen (by omega) (by omega) (hN _ _ _ _ _ _ _ _ _ _ _ _ _ hS1 hr9 hZ9 hI1))
  · skip
    have h0 := th_0 qq (Nat.le_trans (zc_Perf (S := S) (β := β) (len := len)) (Nat.le_of_ble_eq_true rfl))
    obtain ⟨r9, rfl, hr0⟩ := hv h0
    have e9 : r9 = b9 := Int32.toInt_inj.mp (hr0.trans (hb9 h0).symm)
    rw [e9]
    refine JX_aload_n (i := 3) (q := 4) (pc1 := 1565) dL_law_1564 rfl rfl rfl ?_
    refine JX_iconst (v := 0) (pc1 := 1566) dL_law_1565 (by decide) rfl ?_
    refine JX_lald (pc1 := 1567) dL_law_1566 rfl ?_
    refine JX_iload (i := 7) (q := 0) (pc1 := 1569) dL_law_1567 rfl rfl ?_
    refine JX_i2l (v := (b9).toInt64) (pc1 := 1570) dL_law_1569 rfl rfl ?_
    refine JX_lcmp (v := 0) (pc1 := 1571) dL_law_1570 (lg_self _) rfl ?_
    refine JX_if_eq (tgt := 1576) (pc1 := 1574) dL_law_1571 (by decide) (fun qq => ?_) rfl (fun qq => absurd (rfl) qq)
    refine JX_goto (tgt := 1748) dL_law_1576 (by decide) ?_
    exact JX_sub [2, 3, 4, 5, 6, 7] rfl (JX_widen (by omega) (by omega) (hN _ _ _ _ _ _ _ _ _ _ _ _ _ hS1 hr9 hZ9 hI1))
theorem lwC_feed (hlz : l.stackTraces = false) (hx : va_X b L xs s s.heap) (hbl : b < s.heap.size) (hL : 4 * n + 4 ≤ L) (hL2 : L ≤ 2048) (hI : gI (mxE gE_R E) (mxA adr ad)) (hS : cSt a0 S sv β len T E kd ad rh μc) (hr : rSt n S sv β len T μr) (hZ : lJ n S sv) (hN : lwN p l e s m below meth c D tc sa cJ cD x1 x2 adr b Q a0 (n + 1) (4 * n)) : JL p l e s m below meth c D tc sa cJ cD x1 x2 adr b Q E kd ad rh μr μc v8 d8 (1000 + 300 * n) (10000 + 5000 * n) 1477 [(5, .int (nI (4 * n))), (4, .ref x2), (3, .ref x1), (2, .ref (adr 0 0)), (1, .ref a0), (0, .ref b)] [] := by
  have hn : n ≤ 600 := by omega
  have hIR : gI gE_R adr := gI_mxa mxL_R.1 hI
  refine JX_aload_n (i := 1) (q := 4) (pc1 := 1478) dL_law_1477 rfl rfl rfl ?_
  refine JX_aload_n (i := 0) (q := 5) (pc1 := 1479) dL_law_1478 rfl rfl rfl ?_
  refine JX_iload (i := 5) (q := 0) (pc1 := 1481) dL_law_1479 rfl rfl ?_
  refine JX_iconst (v := 1) (pc1 := 1482) dL_law_1481 (by decide) rfl ?_
  refine JX_iadd (pc1 := 1483) dL_law_1482 rfl ?_
  refine JX_eqI (y := nI (4 * n + 1)) (nI_add (4 * n) 1) ?_
  refine JX_sld (x := xs (4 * n + 1)) (pc1 := 1484) hx hbl (Nat.not_le.mpr hbl) (vp_in_nI (by omega) (by omega)) (by rw [nI_clamp (by omega)]) dL_law_1483 rfl ?_
  refine JX_i2c (pc1 := 1485) dL_law_1484 rfl ?_
  refine JX_aload_n (i := 3) (q := 2) (pc1 := 1486) dL_law_1485 rfl rfl rfl ?_
  refine JX_mixBW (ce := 1000 + 300 * n + 1) (sl := 10000 + 5000 * n + 6) (pc1 := 1489) (st := []) (As := [.ref a0, .int (i2c (xs (4 * n + 1))), .ref x1]) hI mxL_R (lW_feed (a1 := (i2c (xs (4 * n + 1)))) hlz hS hZ.1 hn (i2c_ch _)) wwL_feed wlL_183 rfl ⟨Nat.le_of_ble_eq_true rfl, Nat.le_of_ble_eq_true rfl⟩ ⟨by show 1000 + 300 * n + 1 ≤ 603072; omega, by show 10000 + 5000 * n + 6 ≤ 7219305; omega⟩ (Nat.le_of_ble_eq_true rfl) dL_law_1486 rfl rfl rfl (fun o E1 kd1 ad1 rh1 μ1 w8 e8 hp hI1 => ?_)
  obtain ⟨rfl, hS1, hv⟩ := hp
  show JL p l e s m below meth c D tc sa cJ cD x1 x2 adr b Q E1 kd1 ad1 rh1 μr μ1 w8 e8 (1000 + 300 * n + 1) (10000 + 5000 * n + 6) 1489 [(5, .int (nI (4 * n))), (4, .ref x2), (3, .ref x1), (2, .ref (adr 0 0)), (1, .ref a0), (0, .ref b)] [.int (nI (zFeed β len (i2c (xs (4 * n + 1)))).1)]
  refine JX_istore (i := 6) (lv1 := [(6, .int (nI (zFeed β len (i2c (xs (4 * n + 1)))).1)), (5, .int (nI (4 * n))), (4, .ref x2), (3, .ref x1), (2, .ref (adr 0 0)), (1, .ref a0), (0, .ref b)]) (pc1 := 1491) dL_law_1489 (by decide) rfl rfl ?_
  refine JX_aload_n (i := 2) (q := 4) (pc1 := 1492) dL_law_1491 rfl rfl rfl ?_
  refine JX_aload_n (i := 0) (q := 6) (pc1 := 1493) dL_law_1492 rfl rfl rfl ?_
  refine JX_iload (i := 5) (q := 1) (pc1 := 1495) dL_law_1493 rfl rfl ?_
  refine JX_iconst (v := 1) (pc1 := 1496) dL_law_1495 (by decide) rfl ?_
  refine JX_iadd (pc1 := 1497) dL_law_1496 rfl ?_
  refine JX_eqI (y := nI (4 * n + 1)) (nI_add (4 * n) 1) ?_
  refine JX_sld (x := xs (4 * n + 1)) (pc1 := 1498) hx hbl (Nat.not_le.mpr hbl) (vp_in_nI (by omega) (by omega)) (by rw [nI_clamp (by omega)]) dL_law_1497 rfl ?_
  refine JX_i2c (pc1 := 1499) dL_law_1498 rfl ?_
  obtain ⟨b9, μ9, hM, hc9, hb9, hr9, hZ9⟩ := rC_feed (l := l) (D := D) (tc := tc) (sa := sa) (ad := adr) (a1 := (i2c (xs (4 * n + 1)))) hIR hr hZ hn (i2c_ch _)
  refine JX_mixAM (mc := 0) (ms := 0) (o := some (.int b9)) (μ1 := μ9) (pc1 := 1502) (st := []) (st1 := [.int b9]) (ce := 1000 + 300 * n + 1) (sl := 10000 + 5000 * n + 6) hI1 mxL_R (J_hV (st := []) (As := [.int (i2c (xs (4 * n + 1)))]) (hM) wcX7_feed rfl wlL_186 (mxA_a (by decide)).symm (mxE_a eR0) rfl rfl rfl ⟨Nat.le_of_ble_eq_true rfl, Nat.le_of_ble_eq_true rfl⟩ ⟨by show 1000 + 300 * n + 1 + 0 ≤ 603072; omega, by show 10000 + 5000 * n + 6 + 0 ≤ 7219305; omega⟩ (Nat.le_of_ble_eq_true rfl) dL_law_1499) rfl rfl rfl rfl ?_
  refine JX_istore (i := 7) (lv1 := [(7, .int b9), (6, .int (nI (zFeed β len (i2c (xs (4 * n + 1)))).1)), (5, .int (nI (4 * n))), (4, .ref x2), (3, .ref x1), (2, .ref (adr 0 0)), (1, .ref a0), (0, .ref b)]) (pc1 := 1504) dL_law_1502 (by decide) rfl rfl ?_
  refine JX_aload_n (i := 2) (q := 5) (pc1 := 1505) dL_law_1504 rfl rfl rfl ?_
  refine JX_mixAM (mc := 0) (ms := 0) (o := some (.int (μ9 0 0 0))) (μ1 := μ9) (pc1 := 1508) (st := []) (st1 := [.int (μ9 0 0 0)]) (ce := 1000 + 300 * n + 1) (sl := 10000 + 5000 * n + 6) hI1 mxL_R (J_hV (st := []) (As := []) (rC_thrown hIR) wcX7_thrown rfl wlL_114 (mxA_a (by decide)).symm (mxE_a eR0) rfl rfl rfl ⟨Nat.le_of_ble_eq_true rfl, Nat.le_of_ble_eq_true rfl⟩ ⟨by show 1000 + 300 * n + 1 + 0 ≤ 603072; omega, by show 10000 + 5000 * n + 6 + 0 ≤ 7219305; omega⟩ (Nat.le_of_ble_eq_true rfl) dL_law_1505) rfl rfl rfl rfl ?_
  refine JX_iload (i := 6) (q := 1) (pc1 := 1510) dL_law_1508 rfl rfl ?_
  refine JX_icmp_eq (tgt := 1515) (pc1 := 1513) dL_law_1510 (by decide) (fun qq => ?_) rfl (fun qq => absurd (th_eq hc9 (zc_Feed)) qq)
  refine JX_iload (i := 6) (q := 1) (pc1 := 1517) dL_law_1515 rfl rfl ?_
  refine JX_if_ne (tgt := 1532) (pc1 := 1520) dL_law_1517 (by decide) (fun qq => ?_) rfl (fun qq => ?_)
  · skip
    refine JX_goto (tgt := 1748) dL_law_1532 (by decide) ?_
    exact JX_sub [2, 3, 4, 5, 6, 7] rfl (JX_widen (by omega) (by omega) (hN _ _ _ _ _ _ _ _ _ _ _ _ _ hS1 hr9 hZ9 hI1))
  · skip
    have h0 := th_0 qq (zc_Feed)
    obtain ⟨r9, rfl, hr0⟩ := hv h0
    have e9 : r9 = b9 := Int32.toInt_inj.mp (hr0.trans (hb9 h0).symm)
    rw [e9]
    refine JX_aload_n (i := 3) (q := 4) (pc1 := 1521) dL_law_1520 rfl rfl rfl ?_
    refine JX_iconst (v := 0) (pc1 := 1522) dL_law_1521 (by decide) rfl ?_
    refine JX_lald (pc1 := 1523) dL_law_1522 rfl ?_
    refine JX_iload (i := 7) (q := 0) (pc1 := 1525) dL_law_1523 rfl rfl ?_
    refine JX_i2l (v := (b9).toInt64) (pc1 := 1526) dL_law_1525 rfl rfl ?_
    refine JX_lcmp (v := 0) (pc1 := 1527) dL_law_1526 (lg_self _) rfl ?_
    refine JX_if_eq (tgt := 1532) (pc1 := 1530) dL_law_1527 (by decide) (fun qq => ?_) rfl (fun qq => absurd (rfl) qq)
    refine JX_goto (tgt := 1748) dL_law_1532 (by decide) ?_
    exact JX_sub [2, 3, 4, 5, 6, 7] rfl (JX_widen (by omega) (by omega) (hN _ _ _ _ _ _ _ _ _ _ _ _ _ hS1 hr9 hZ9 hI1))
theorem lwC_setLink (hlz : l.stackTraces = false) (hx : va_X b L xs s s.heap) (hbl : b < s.heap.size) (hL : 4 * n + 4 ≤ L) (hL2 : L ≤ 2048) (hI : gI (mxE gE_R E) (mxA adr ad)) (hS : cSt a0 S sv β len T E kd ad rh μc) (hr : rSt n S sv β len T μr) (hZ : lJ n S sv) (hN : lwN p l e s m below meth c D tc sa cJ cD x1 x2 adr b Q a0 (n + 1) (4 * n)) : JL p l e s m below meth c D tc sa cJ cD x1 x2 adr b Q E kd ad rh μr μc v8 d8 (1000 + 300 * n) (10000 + 5000 * n) 348 [(5, .int (nI (4 * n))), (4, .ref x2), (3, .ref x1), (2, .ref (adr 0 0)), (1, .ref a0), (0, .ref b)] [] := by
  have hn : n ≤ 600 := by omega
  have hIR : gI gE_R adr := gI_mxa mxL_R.1 hI
  obtain ⟨a3, ha3⟩ : ∃ a3 : Int32, a3 = (if xs (4 * n + 3) = 0 then 0 else 1 : Int32) := ⟨_, rfl⟩
  refine JX_aload_n (i := 1) (q := 4) (pc1 := 349) dL_law_348 rfl rfl rfl ?_
  refine JX_aload_n (i := 0) (q := 5) (pc1 := 350) dL_law_349 rfl rfl rfl ?_
  refine JX_iload (i := 5) (q := 0) (pc1 := 352) dL_law_350 rfl rfl ?_
  refine JX_iconst (v := 1) (pc1 := 353) dL_law_352 (by decide) rfl ?_
  refine JX_iadd (pc1 := 354) dL_law_353 rfl ?_
  refine JX_eqI (y := nI (4 * n + 1)) (nI_add (4 * n) 1) ?_
  refine JX_sld (x := xs (4 * n + 1)) (pc1 := 355) hx hbl (Nat.not_le.mpr hbl) (vp_in_nI (by omega) (by omega)) (by rw [nI_clamp (by omega)]) dL_law_354 rfl ?_
  refine JX_aload_n (i := 0) (q := 5) (pc1 := 356) dL_law_355 rfl rfl rfl ?_
  refine JX_iload (i := 5) (q := 0) (pc1 := 358) dL_law_356 rfl rfl ?_
  refine JX_iconst (v := 2) (pc1 := 359) dL_law_358 (by decide) rfl ?_
  refine JX_iadd (pc1 := 360) dL_law_359 rfl ?_
  refine JX_eqI (y := nI (4 * n + 2)) (nI_add (4 * n) 2) ?_
  refine JX_sld (x := xs (4 * n + 2)) (pc1 := 361) hx hbl (Nat.not_le.mpr hbl) (vp_in_nI (by omega) (by omega)) (by rw [nI_clamp (by omega)]) dL_law_360 rfl ?_
  refine JX_aload_n (i := 0) (q := 5) (pc1 := 362) dL_law_361 rfl rfl rfl ?_
  refine JX_iload (i := 5) (q := 0) (pc1 := 364) dL_law_362 rfl rfl ?_
  refine JX_iconst (v := 3) (pc1 := 365) dL_law_364 (by decide) rfl ?_
  refine JX_iadd (pc1 := 366) dL_law_365 rfl ?_
  refine JX_eqI (y := nI (4 * n + 3)) (nI_add (4 * n) 3) ?_
  refine JX_sld (x := xs (4 * n + 3)) (pc1 := 367) hx hbl (Nat.not_le.mpr hbl) (vp_in_nI (by omega) (by omega)) (by rw [nI_clamp (by omega)]) dL_law_366 rfl ?_
  have hK : JL p l e s m below meth c D tc sa cJ cD x1 x2 adr b Q E kd ad rh μr μc v8 d8 (1000 + 300 * n) (10000 + 5000 * n) 375 [(5, .int (nI (4 * n))), (4, .ref x2), (3, .ref x1), (2, .ref (adr 0 0)), (1, .ref a0), (0, .ref b)] [.int a3, .int (xs (4 * n + 2)), .int (xs (4 * n + 1)), .ref a0] := by
    refine JX_aload_n (i := 3) (q := 2) (pc1 := 376) dL_law_375 rfl rfl rfl ?_
    refine JX_mixBW (ce := 1000 + 300 * n + 1) (sl := 10000 + 5000 * n + 6) (pc1 := 379) (st := []) (As := [.ref a0, .int (xs (4 * n + 1)), .int (xs (4 * n + 2)), .int a3, .ref x1]) hI mxL_R (lW_setLink (a1 := xs (4 * n + 1)) (a2 := xs (4 * n + 2)) (a3 := a3) hlz hS hZ.1 hn) wwL_setLink wlL_124 rfl ⟨Nat.le_of_ble_eq_true rfl, Nat.le_of_ble_eq_true rfl⟩ ⟨by show 1000 + 300 * n + 1 ≤ 603072; omega, by show 10000 + 5000 * n + 6 ≤ 7219305; omega⟩ (Nat.le_of_ble_eq_true rfl) dL_law_376 rfl rfl rfl (fun o E1 kd1 ad1 rh1 μ1 w8 e8 hp hI1 => ?_)
    obtain ⟨rfl, hS1, hv⟩ := hp
    show JL p l e s m below meth c D tc sa cJ cD x1 x2 adr b Q E1 kd1 ad1 rh1 μr μ1 w8 e8 (1000 + 300 * n + 1) (10000 + 5000 * n + 6) 379 [(5, .int (nI (4 * n))), (4, .ref x2), (3, .ref x1), (2, .ref (adr 0 0)), (1, .ref a0), (0, .ref b)] [.int (nI (zaLink S (xs (4 * n + 1)).toInt (xs (4 * n + 2)).toInt (decide (a3 ≠ 0))).1)]
    refine JX_istore (i := 6) (lv1 := [(6, .int (nI (zaLink S (xs (4 * n + 1)).toInt (xs (4 * n + 2)).toInt (decide (a3 ≠ 0))).1)), (5, .int (nI (4 * n))), (4, .ref x2), (3, .ref x1), (2, .ref (adr 0 0)), (1, .ref a0), (0, .ref b)]) (pc1 := 381) dL_law_379 (by decide) rfl rfl ?_
    refine JX_aload_n (i := 2) (q := 4) (pc1 := 382) dL_law_381 rfl rfl rfl ?_
    refine JX_aload_n (i := 0) (q := 6) (pc1 := 383) dL_law_382 rfl rfl rfl ?_
    refine JX_iload (i := 5) (q := 1) (pc1 := 385) dL_law_383 rfl rfl ?_
    refine JX_iconst (v := 1) (pc1 := 386) dL_law_385 (by decide) rfl ?_
    refine JX_iadd (pc1 := 387) dL_law_386 rfl ?_
    refine JX_eqI (y := nI (4 * n + 1)) (nI_add (4 * n) 1) ?_
    refine JX_sld (x := xs (4 * n + 1)) (pc1 := 388) hx hbl (Nat.not_le.mpr hbl) (vp_in_nI (by omega) (by omega)) (by rw [nI_clamp (by omega)]) dL_law_387 rfl ?_
    refine JX_aload_n (i := 0) (q := 6) (pc1 := 389) dL_law_388 rfl rfl rfl ?_
    refine JX_iload (i := 5) (q := 1) (pc1 := 391) dL_law_389 rfl rfl ?_
    refine JX_iconst (v := 2) (pc1 := 392) dL_law_391 (by decide) rfl ?_
    refine JX_iadd (pc1 := 393) dL_law_392 rfl ?_
    refine JX_eqI (y := nI (4 * n + 2)) (nI_add (4 * n) 2) ?_
    refine JX_sld (x := xs (4 * n + 2)) (pc1 := 394) hx hbl (Nat.not_le.mpr hbl) (vp_in_nI (by omega) (by omega)) (by rw [nI_clamp (by omega)]) dL_law_393 rfl ?_
    refine JX_aload_n (i := 0) (q := 6) (pc1 := 395) dL_law_394 rfl rfl rfl ?_
    refine JX_iload (i := 5) (q := 1) (pc1 := 397) dL_law_395 rfl rfl ?_
    refine JX_iconst (v := 3) (pc1 := 398) dL_law_397 (by decide) rfl ?_
    refine JX_iadd (pc1 := 399) dL_law_398 rfl ?_
    refine JX_eqI (y := nI (4 * n + 3)) (nI_add (4 * n) 3) ?_
    refine JX_sld (x := xs (4 * n + 3)) (pc1 := 400) hx hbl (Nat.not_le.mpr hbl) (vp_in_nI (by omega) (by omega)) (by rw [nI_clamp (by omega)]) dL_law_399 rfl ?_
    have hK : JL p l e s m below meth c D tc sa cJ cD x1 x2 adr b Q E1 kd1 ad1 rh1 μr μ1 w8 e8 (1000 + 300 * n + 1) (10000 + 5000 * n + 6) 408 [(6, .int (nI (zaLink S (xs (4 * n + 1)).toInt (xs (4 * n + 2)).toInt (decide (a3 ≠ 0))).1)), (5, .int (nI (4 * n))), (4, .ref x2), (3, .ref x1), (2, .ref (adr 0 0)), (1, .ref a0), (0, .ref b)] [.int a3, .int (xs (4 * n + 2)), .int (xs (4 * n + 1)), .ref (adr 0 0)] := by
      obtain ⟨b9, μ9, hM, hc9, hb9, hr9, hZ9⟩ := rC_setLink (l := l) (D := D) (tc := tc) (sa := sa) (ad := adr) (a1 := xs (4 * n + 1)) (a2 := xs (4 * n + 2)) (a3 := a3) hIR hr hZ hn
      refine JX_mixAM (mc := 0) (ms := 0) (o := some (.int b9)) (μ1 := μ9) (pc1 := 411) (st := []) (st1 := [.int b9]) (ce := 1000 + 300 * n + 1) (sl := 10000 + 5000 * n + 6) hI1 mxL_R (J_hV (st := []) (As := [.int (xs (4 * n + 1)), .int (xs (4 * n + 2)), .int a3]) (hM) wcX7_setLink rfl wlL_127 (mxA_a (by decide)).symm (mxE_a eR0) rfl rfl rfl ⟨Nat.le_of_ble_eq_true rfl, Nat.le_of_ble_eq_true rfl⟩ ⟨by show 1000 + 300 * n + 1 + 0 ≤ 603072; omega, by show 10000 + 5000 * n + 6 + 0 ≤ 7219305; omega⟩ (Nat.le_of_ble_eq_true rfl) dL_law_408) rfl rfl rfl rfl ?_
      refine JX_istore (i := 7) (lv1 := [(7, .int b9), (6, .int (nI (zaLink S (xs (4 * n + 1)).toInt (xs (4 * n + 2)).toInt (decide (a3 ≠ 0))).1)), (5, .int (nI (4 * n))), (4, .ref x2), (3, .ref x1), (2, .ref (adr 0 0)), (1, .ref a0), (0, .ref b)]) (pc1 := 413) dL_law_411 (by decide) rfl rfl ?_
      refine JX_aload_n (i := 2) (q := 5) (pc1 := 414) dL_law_413 rfl rfl rfl ?_
      refine JX_mixAM (mc := 0) (ms := 0) (o := some (.int (μ9 0 0 0))) (μ1 := μ9) (pc1 := 417) (st := []) (st1 := [.int (μ9 0 0 0)]) (ce := 1000 + 300 * n + 1) (sl := 10000 + 5000 * n + 6) hI1 mxL_R (J_hV (st := []) (As := []) (rC_thrown hIR) wcX7_thrown rfl wlL_114 (mxA_a (by decide)).symm (mxE_a eR0) rfl rfl rfl ⟨Nat.le_of_ble_eq_true rfl, Nat.le_of_ble_eq_true rfl⟩ ⟨by show 1000 + 300 * n + 1 + 0 ≤ 603072; omega, by show 10000 + 5000 * n + 6 + 0 ≤ 7219305; omega⟩ (Nat.le_of_ble_eq_true rfl) dL_law_414) rfl rfl rfl rfl ?_
      refine JX_iload (i := 6) (q := 1) (pc1 := 419) dL_law_417 rfl rfl ?_
      refine JX_icmp_eq (tgt := 424) (pc1 := 422) dL_law_419 (by decide) (fun qq => ?_) rfl (fun qq => absurd (th_eq hc9 (Nat.le_trans (zc_Link (S := S) (a := (xs (4 * n + 1)).toInt) (b := (xs (4 * n + 2)).toInt) (x := decide (a3 ≠ 0))) (Nat.le_of_ble_eq_true rfl))) qq)
      refine JX_iload (i := 6) (q := 1) (pc1 := 426) dL_law_424 rfl rfl ?_
      refine JX_if_ne (tgt := 448) (pc1 := 429) dL_law_426 (by decide) (fun qq => ?_) rfl (fun qq => ?_)
      · skip
        refine JX_goto (tgt := 1748) dL_law_448 (by decide) ?_
        exact JX_sub [2, 3, 4, 5, 6, 7] rfl (JX_widen (by omega) (by omega) (hN _ _ _ _ _ _ _ _ _ _ _ _ _ hS1 hr9 hZ9 hI1))
      · skip
        have h0 := th_0 qq (Nat.le_trans (zc_Link (S := S) (a := (xs (4 * n + 1)).toInt) (b := (xs (4 * n + 2)).toInt) (x := decide (a3 ≠ 0))) (Nat.le_of_ble_eq_true rfl))
        obtain ⟨r9, rfl, hr0⟩ := hv h0
        have e9 : r9 = b9 := Int32.toInt_inj.mp (hr0.trans (hb9 h0).symm)
        rw [e9]
        have hb01 : b9 = 0 ∨ b9 = 1 := zLink_01 (hb9 h0)
        refine JX_aload_n (i := 3) (q := 4) (pc1 := 430) dL_law_429 rfl rfl rfl ?_
        refine JX_iconst (v := 0) (pc1 := 431) dL_law_430 (by decide) rfl ?_
        refine JX_lald (pc1 := 432) dL_law_431 rfl ?_
        refine JX_iload (i := 7) (q := 0) (pc1 := 434) dL_law_432 rfl rfl ?_
        refine JX_if_eq (tgt := 441) (pc1 := 437) dL_law_434 (by decide) (fun q0 => ?_) rfl (fun q0 => ?_)
        · have e1 : b9 = 0 := q0
          refine JX_lconst (v := (0 : Int32).toInt64) (pc1 := 442) dL_law_441 rfl rfl ?_
          refine JX_lcmp (v := 0) (pc1 := 443) dL_law_442 (by rw [e1]; exact lg_self _) rfl ?_
          refine JX_if_eq (tgt := 448) (pc1 := 446) dL_law_443 (by decide) (fun qq => ?_) rfl (fun qq => absurd (rfl) qq)
          refine JX_goto (tgt := 1748) dL_law_448 (by decide) ?_
          exact JX_sub [2, 3, 4, 5, 6, 7] rfl (JX_widen (by omega) (by omega) (hN _ _ _ _ _ _ _ _ _ _ _ _ _ hS1 hr9 hZ9 hI1))
        · have e1 : b9 = 1 := hb01.resolve_left q0
          refine JX_lconst (v := (1 : Int32).toInt64) (pc1 := 438) dL_law_437 rfl rfl ?_
          refine JX_goto (tgt := 442) dL_law_438 (by decide) ?_
          refine JX_lcmp (v := 0) (pc1 := 443) dL_law_442 (by rw [e1]; exact lg_self _) rfl ?_
          refine JX_if_eq (tgt := 448) (pc1 := 446) dL_law_443 (by decide) (fun qq => ?_) rfl (fun qq => absurd (rfl) qq)
          refine JX_goto (tgt := 1748) dL_law_448 (by decide) ?_
          exact JX_sub [2, 3, 4, 5, 6, 7] rfl (JX_widen (by omega) (by omega) (hN _ _ _ _ _ _ _ _ _ _ _ _ _ hS1 hr9 hZ9 hI1))
    refine JX_if_eq (tgt := 407) (pc1 := 403) dL_law_400 (by decide) (fun qq => ?_) rfl (fun qq => ?_)
    · refine JX_iconst (v := 0) (pc1 := 408) dL_law_407 (by decide) rfl ?_
      exact JX_eqI (ha3.trans (if_pos qq)).symm hK
    · refine JX_iconst (v := 1) (pc1 := 404) dL_law_403 (by decide) rfl ?_
      refine JX_goto (tgt := 408) dL_law_404 (by decide) ?_
      exact JX_eqI (ha3.trans (if_neg qq)).symm hK
  refine JX_if_eq (tgt := 374) (pc1 := 370) dL_law_367 (by decide) (fun qq => ?_) rfl (fun qq => ?_)
  · refine JX_iconst (v := 0) (pc1 := 375) dL_law_374 (by decide) rfl ?_
    exact JX_eqI (ha3.trans (if_pos qq)).symm hK
  · refine JX_iconst (v := 1) (pc1 := 371) dL_law_370 (by decide) rfl ?_
    refine JX_goto (tgt := 375) dL_law_371 (by decide) ?_
    exact JX_eqI (ha3.trans (if_neg qq)).symm hK
theorem lwC_messages (hlz : l.stackTraces = false) (hx : va_X b L xs s s.heap) (hbl : b < s.heap.size) (hL : 4 * n + 4 ≤ L) (hL2 : L ≤ 2048) (hI : gI (mxE gE_R E) (mxA adr ad)) (hS : cSt a0 S sv β len T E kd ad rh μc) (hr : rSt n S sv β len T μr) (hZ : lJ n S sv) (hN : lwN p l e s m below meth c D tc sa cJ cD x1 x2 adr b Q a0 (n + 1) (4 * n)) : JL p l e s m below meth c D tc sa cJ cD x1 x2 adr b Q E kd ad rh μr μc v8 d8 (1000 + 300 * n) (10000 + 5000 * n) 1039 [(5, .int (nI (4 * n))), (4, .ref x2), (3, .ref x1), (2, .ref (adr 0 0)), (1, .ref a0), (0, .ref b)] [] := by
  have hn : n ≤ 600 := by omega
  have hIR : gI gE_R adr := gI_mxa mxL_R.1 hI
  obtain ⟨hE3, hk3, ha3, -⟩ := cSt_recv hS
  subst ha3
  have hcs := cC_messages (l := l) (D := D) (tc := tc) (sa := sa) hS
  refine JX_aload_n (i := 1) (q := 4) (pc1 := 1040) dL_law_1039 rfl rfl rfl ?_
  refine JX_mixBG (mc := 0) (ms := 0) (ce := 1000 + 300 * n + 0) (sl := 10000 + 5000 * n + 0) (pc1 := 1043) (st := []) hI mxL_R (J_hV (fc := 30) (ic := 0) (adc := ad) (f := 60) (i := 0) (st := []) (As := []) hcs wcX6_messages rfl wlL_156 mxA_b.symm (mxE_b hE3) ((mxK_b (f := 30)).trans hk3) rfl rfl ⟨Nat.le_of_ble_eq_true rfl, Nat.le_of_ble_eq_true rfl⟩ ⟨by show 1000 + 300 * n + 0 ≤ 603072; omega, by show 10000 + 5000 * n + 0 ≤ 7219305; omega⟩ (Nat.le_of_ble_eq_true rfl) dL_law_1040) rfl rfl rfl (fun o E1 kd1 ad1 rh1 μ1 hp hI1 => ?_)
  obtain ⟨r9, rfl, hv, hS1⟩ := hp
  show JL p l e s m below meth c D tc sa cJ cD x1 x2 adr b Q E1 kd1 ad1 rh1 μr μ1 v8 d8 (1000 + 300 * n + 0) (10000 + 5000 * n + 0) 1043 [(5, .int (nI (4 * n))), (4, .ref x2), (3, .ref x1), (2, .ref (adr 0 0)), (1, .ref (ad 30 0)), (0, .ref b)] [.int r9]
  refine JX_aload_n (i := 2) (q := 3) (pc1 := 1044) dL_law_1043 rfl rfl rfl ?_
  obtain ⟨b9, μ9, hM, hc9, hb9, hr9, hZ9⟩ := rC_messages (l := l) (D := D) (tc := tc) (sa := sa) (ad := adr) hIR hr hZ hn
  refine JX_mixAM (mc := 0) (ms := 0) (o := some (.int b9)) (μ1 := μ9) (pc1 := 1047) (st := [.int r9]) (st1 := [.int b9, .int r9]) (ce := 1000 + 300 * n + 0) (sl := 10000 + 5000 * n + 0) hI1 mxL_R (J_hV (st := [.int r9]) (As := []) (hM) wcX7_messages rfl wlL_159 (mxA_a (by decide)).symm (mxE_a eR0) rfl rfl rfl ⟨Nat.le_of_ble_eq_true rfl, Nat.le_of_ble_eq_true rfl⟩ ⟨by show 1000 + 300 * n + 0 + 0 ≤ 603072; omega, by show 10000 + 5000 * n + 0 + 0 ≤ 7219305; omega⟩ (Nat.le_of_ble_eq_true rfl) dL_law_1044) rfl rfl rfl rfl ?_
  refine JX_icmp_eq (tgt := 1748) (pc1 := 1050) dL_law_1047 (by decide) (fun qq => ?_) rfl (fun qq => absurd (Int32.toInt_inj.mp (hv.trans (hb9 rfl).symm)) qq)
  exact JX_sub [0, 1, 2, 3, 4, 5] rfl (JX_widen (by omega) (by omega) (hN _ _ _ _ _ _ _ _ _ _ _ _ _ hS1 hr9 hZ9 hI1))
theorem lwC_save (hlz : l.stackTraces = false) (hx : va_X b L xs s s.heap) (hbl : b < s.heap.size) (hL : 4 * n + 4 ≤ L) (hL2 : L ≤ 2048) (hI : gI (mxE gE_R E) (mxA adr ad)) (hS : cSt a0 S sv β len T E kd ad rh μc) (hr : rSt n S sv β len T μr) (hZ : lJ n S sv) (hN : lwN p l e s m below meth c D tc sa cJ cD x1 x2 adr b Q a0 (n + 1) (4 * n)) : JL p l e s m below meth c D tc sa cJ cD x1 x2 adr b Q E kd ad rh μr μc v8 d8 (1000 + 300 * n) (10000 + 5000 * n) 1691 [(5, .int (nI (4 * n))), (4, .ref x2), (3, .ref x1), (2, .ref (adr 0 0)), (1, .ref a0), (0, .ref b)] [] := by
  have hn : n ≤ 600 := by omega
  have hIR : gI gE_R adr := gI_mxa mxL_R.1 hI
  obtain ⟨hE3, hk3, ha3, -⟩ := cSt_recv hS
  subst ha3
  obtain ⟨rm9, hm1, hm2, hm3, hm4, hcs⟩ := cC_save (l := l) (D := D) (tc := tc) (sa := sa) hS hZ.1 hn
  refine JX_aload_n (i := 1) (q := 4) (pc1 := 1692) dL_law_1691 rfl rfl rfl ?_
  refine JX_mixBG (mc := rm9.cells) (ms := rm9.slots) (ce := 1000 + 300 * n + rm9.cells) (sl := 10000 + 5000 * n + rm9.slots) (pc1 := 1695) (st := []) hI mxL_R (J_hV (fc := 30) (ic := 0) (adc := ad) (f := 60) (i := 0) (st := []) (As := []) hcs wcX6_save rfl wlL_196 mxA_b.symm (mxE_b hE3) ((mxK_b (f := 30)).trans hk3) rfl rfl ⟨by show rm9.frames + 1 ≤ 2048; omega, by show 8 + (1 + 11) + rm9.locals ≤ 94400; omega⟩ ⟨by show 1000 + 300 * n + rm9.cells ≤ 603072; omega, by show 10000 + 5000 * n + rm9.slots ≤ 7219305; omega⟩ (Nat.le_of_ble_eq_true rfl) dL_law_1692) rfl rfl rfl (fun o E1 kd1 ad1 rh1 μ1 hp hI1 => ?_)
  obtain ⟨r9, rfl, hv, hS1⟩ := hp
  show JL p l e s m below meth c D tc sa cJ cD x1 x2 adr b Q E1 kd1 ad1 rh1 μr μ1 v8 d8 (1000 + 300 * n + rm9.cells) (10000 + 5000 * n + rm9.slots) 1695 [(5, .int (nI (4 * n))), (4, .ref x2), (3, .ref x1), (2, .ref (adr 0 0)), (1, .ref (ad 30 0)), (0, .ref b)] [.int r9]
  refine JX_aload_n (i := 2) (q := 3) (pc1 := 1696) dL_law_1695 rfl rfl rfl ?_
  obtain ⟨b9, μ9, hM, hb9, hr9, hZ9⟩ := rC_save (l := l) (D := D) (tc := tc) (sa := sa) (ad := adr) hIR hr hZ hn
  refine JX_mixAM (mc := 0) (ms := 0) (o := some (.int b9)) (μ1 := μ9) (pc1 := 1699) (st := [.int r9]) (st1 := [.int b9, .int r9]) (ce := 1000 + 300 * n + rm9.cells) (sl := 10000 + 5000 * n + rm9.slots) hI1 mxL_R (J_hV (st := [.int r9]) (As := []) (hM) wcX7_save rfl wlL_199 (mxA_a (by decide)).symm (mxE_a eR0) rfl rfl rfl ⟨Nat.le_of_ble_eq_true rfl, Nat.le_of_ble_eq_true rfl⟩ ⟨by show 1000 + 300 * n + rm9.cells + 0 ≤ 603072; omega, by show 10000 + 5000 * n + rm9.slots + 0 ≤ 7219305; omega⟩ (Nat.le_of_ble_eq_true rfl) dL_law_1696) rfl rfl rfl rfl ?_
  refine JX_icmp_eq (tgt := 1748) (pc1 := 1702) dL_law_1699 (by decide) (fun qq => ?_) rfl (fun qq => absurd (Int32.toInt_inj.mp (hv.trans hb9.symm)) qq)
  exact JX_sub [0, 1, 2, 3, 4, 5] rfl (JX_widen (by omega) (by omega) (hN _ _ _ _ _ _ _ _ _ _ _ _ _ hS1 hr9 hZ9 hI1))
theorem lwC_share (hlz : l.stackTraces = false) (hx : va_X b L xs s s.heap) (hbl : b < s.heap.size) (hL : 4 * n + 4 ≤ L) (hL2 : L ≤ 2048) (hI : gI (mxE gE_R E) (mxA adr ad)) (hS : cSt a0 S sv β len T E kd ad rh μc) (hr : rSt n S sv β len T μr) (hZ : lJ n S sv) (hN : lwN p l e s m below meth c D tc sa cJ cD x1 x2 adr b Q a0 (n + 1) (4 * n)) : JL p l e s m below meth c D tc sa cJ cD x1 x2 adr b Q E kd ad rh μr μc v8 d8 (1000 + 300 * n) (10000 + 5000 * n) 1400 [(5, .int (nI (4 * n))), (4, .ref x2), (3, .ref x1), (2, .ref (adr 0 0)), (1, .ref a0), (0, .ref b)] [] := by
  have hn : n ≤ 600 := by omega
  have hIR : gI gE_R adr := gI_mxa mxL_R.1 hI
  refine JX_aload_n (i := 1) (q := 4) (pc1 := 1401) dL_law_1400 rfl rfl rfl ?_
  refine JX_aload_n (i := 0) (q := 5) (pc1 := 1402) dL_law_1401 rfl rfl rfl ?_
  refine JX_iload (i := 5) (q := 0) (pc1 := 1404) dL_law_1402 rfl rfl ?_
  refine JX_iconst (v := 1) (pc1 := 1405) dL_law_1404 (by decide) rfl ?_
  refine JX_iadd (pc1 := 1406) dL_law_1405 rfl ?_
  refine JX_eqI (y := nI (4 * n + 1)) (nI_add (4 * n) 1) ?_
  refine JX_sld (x := xs (4 * n + 1)) (pc1 := 1407) hx hbl (Nat.not_le.mpr hbl) (vp_in_nI (by omega) (by omega)) (by rw [nI_clamp (by omega)]) dL_law_1406 rfl ?_
  refine JX_aload (i := 4) (q := 1) (pc1 := 1409) dL_law_1407 rfl rfl ?_
  refine JX_mixBW (ce := 1000 + 300 * n + 1) (sl := 10000 + 5000 * n + 6) (pc1 := 1412) (st := []) (As := [.ref a0, .int (xs (4 * n + 1)), .ref x2]) hI mxL_R (lW_share (a1 := xs (4 * n + 1)) hlz hS hZ.1 hn) wwL_share wlL_179 rfl ⟨Nat.le_of_ble_eq_true rfl, Nat.le_of_ble_eq_true rfl⟩ ⟨by show 1000 + 300 * n + 1 ≤ 603072; omega, by show 10000 + 5000 * n + 6 ≤ 7219305; omega⟩ (Nat.le_of_ble_eq_true rfl) dL_law_1409 rfl rfl rfl (fun o E1 kd1 ad1 rh1 μ1 w8 e8 hp hI1 => ?_)
  obtain ⟨rfl, hS1, hv⟩ := hp
  show JL p l e s m below meth c D tc sa cJ cD x1 x2 adr b Q E1 kd1 ad1 rh1 μr μ1 w8 e8 (1000 + 300 * n + 1) (10000 + 5000 * n + 6) 1412 [(5, .int (nI (4 * n))), (4, .ref x2), (3, .ref x1), (2, .ref (adr 0 0)), (1, .ref a0), (0, .ref b)] [.int (nI (zaShare S (xs (4 * n + 1)).toInt).1)]
  refine JX_istore (i := 6) (lv1 := [(6, .int (nI (zaShare S (xs (4 * n + 1)).toInt).1)), (5, .int (nI (4 * n))), (4, .ref x2), (3, .ref x1), (2, .ref (adr 0 0)), (1, .ref a0), (0, .ref b)]) (pc1 := 1414) dL_law_1412 (by decide) rfl rfl ?_
  refine JX_aload_n (i := 2) (q := 4) (pc1 := 1415) dL_law_1414 rfl rfl rfl ?_
  refine JX_aload_n (i := 0) (q := 6) (pc1 := 1416) dL_law_1415 rfl rfl rfl ?_
  refine JX_iload (i := 5) (q := 1) (pc1 := 1418) dL_law_1416 rfl rfl ?_
  refine JX_iconst (v := 1) (pc1 := 1419) dL_law_1418 (by decide) rfl ?_
  refine JX_iadd (pc1 := 1420) dL_law_1419 rfl ?_
  refine JX_eqI (y := nI (4 * n + 1)) (nI_add (4 * n) 1) ?_
  refine JX_sld (x := xs (4 * n + 1)) (pc1 := 1421) hx hbl (Nat.not_le.mpr hbl) (vp_in_nI (by omega) (by omega)) (by rw [nI_clamp (by omega)]) dL_law_1420 rfl ?_
  obtain ⟨b9, μ9, hM, hc9, hb9, hr9, hZ9⟩ := rC_share (l := l) (D := D) (tc := tc) (sa := sa) (ad := adr) (a1 := xs (4 * n + 1)) hIR hr hZ hn
  refine JX_mixAM (mc := 0) (ms := 0) (o := some (.double b9)) (μ1 := μ9) (pc1 := 1424) (st := []) (st1 := [.double b9]) (ce := 1000 + 300 * n + 1) (sl := 10000 + 5000 * n + 6) hI1 mxL_R (J_hV (st := []) (As := [.int (xs (4 * n + 1))]) (hM) wcX7_share rfl wlL_182 (mxA_a (by decide)).symm (mxE_a eR0) rfl rfl rfl ⟨Nat.le_of_ble_eq_true rfl, Nat.le_of_ble_eq_true rfl⟩ ⟨by show 1000 + 300 * n + 1 + 0 ≤ 603072; omega, by show 10000 + 5000 * n + 6 + 0 ≤ 7219305; omega⟩ (Nat.le_of_ble_eq_true rfl) dL_law_1421) rfl rfl rfl rfl ?_
  refine JX_dstore (i := 7) (lv1 := [(7, .double b9), (6, .int (nI (zaShare S (xs (4 * n + 1)).toInt).1)), (5, .int (nI (4 * n))), (4, .ref x2), (3, .ref x1), (2, .ref (adr 0 0)), (1, .ref a0), (0, .ref b)]) (pc1 := 1426) dL_law_1424 (by decide) rfl rfl ?_
  refine JX_aload_n (i := 2) (q := 5) (pc1 := 1427) dL_law_1426 rfl rfl rfl ?_
  refine JX_mixAM (mc := 0) (ms := 0) (o := some (.int (μ9 0 0 0))) (μ1 := μ9) (pc1 := 1430) (st := []) (st1 := [.int (μ9 0 0 0)]) (ce := 1000 + 300 * n + 1) (sl := 10000 + 5000 * n + 6) hI1 mxL_R (J_hV (st := []) (As := []) (rC_thrown hIR) wcX7_thrown rfl wlL_114 (mxA_a (by decide)).symm (mxE_a eR0) rfl rfl rfl ⟨Nat.le_of_ble_eq_true rfl, Nat.le_of_ble_eq_true rfl⟩ ⟨by show 1000 + 300 * n + 1 + 0 ≤ 603072; omega, by show 10000 + 5000 * n + 6 + 0 ≤ 7219305; omega⟩ (Nat.le_of_ble_eq_true rfl) dL_law_1427) rfl rfl rfl rfl ?_
  refine JX_iload (i := 6) (q := 1) (pc1 := 1432) dL_law_1430 rfl rfl ?_
  refine JX_icmp_eq (tgt := 1437) (pc1 := 1435) dL_law_1432 (by decide) (fun qq => ?_) rfl (fun qq => absurd (th_eq hc9 (Nat.le_trans (zc_Share (S := S) (a := (xs (4 * n + 1)).toInt)) (Nat.le_of_ble_eq_true rfl))) qq)
  refine JX_iload (i := 6) (q := 1) (pc1 := 1439) dL_law_1437 rfl rfl ?_
  refine JX_if_ne (tgt := 1474) (pc1 := 1442) dL_law_1439 (by decide) (fun qq => ?_) rfl (fun qq => ?_)
  · skip
    refine JX_goto (tgt := 1748) dL_law_1474 (by decide) ?_
    exact JX_sub [2, 3, 4, 5, 6, 7] rfl (JX_widen (by omega) (by omega) (hN _ _ _ _ _ _ _ _ _ _ _ _ _ hS1 hr9 hZ9 hI1))
  · skip
    have h0 := th_0 qq (Nat.le_trans (zc_Share (S := S) (a := (xs (4 * n + 1)).toInt)) (Nat.le_of_ble_eq_true rfl))
    have e9 : e8 = b9 := (hv h0).trans (hb9 h0).symm
    rw [e9]
    refine JX_aload (i := 4) (q := 3) (pc1 := 1444) dL_law_1442 rfl rfl ?_
    refine JX_iconst (v := 0) (pc1 := 1445) dL_law_1444 (by decide) rfl ?_
    refine JX_dald (pc1 := 1446) dL_law_1445 rfl ?_
    refine JX_dload (i := 7) (q := 0) (pc1 := 1448) dL_law_1446 rfl rfl ?_
    refine JX_dcmp (v := (Op.cmpValue (FP.dcmp b9 b9) .l)) (pc1 := 1449) dL_law_1448 rfl rfl ?_
    refine JX_if_eq (tgt := 1474) (pc1 := 1452) dL_law_1449 (by decide) (fun q0 => ?_) rfl (fun q0 => ?_)
    · skip
      refine JX_goto (tgt := 1748) dL_law_1474 (by decide) ?_
      exact JX_sub [2, 3, 4, 5, 6, 7] rfl (JX_widen (by omega) (by omega) (hN _ _ _ _ _ _ _ _ _ _ _ _ _ hS1 hr9 hZ9 hI1))
    · skip
      refine JX_aload (i := 4) (q := 3) (pc1 := 1454) dL_law_1452 rfl rfl ?_
      refine JX_iconst (v := 0) (pc1 := 1455) dL_law_1454 (by decide) rfl ?_
      refine JX_dald (pc1 := 1456) dL_law_1455 rfl ?_
      refine JX_aload (i := 4) (q := 3) (pc1 := 1458) dL_law_1456 rfl rfl ?_
      refine JX_iconst (v := 0) (pc1 := 1459) dL_law_1458 (by decide) rfl ?_
      refine JX_dald (pc1 := 1460) dL_law_1459 rfl ?_
      refine JX_dcmp (v := (Op.cmpValue (FP.dcmp b9 b9) .l)) (pc1 := 1461) dL_law_1460 rfl rfl ?_
      refine JX_if_eq (tgt := 1472) (pc1 := 1464) dL_law_1461 (by decide) (fun qq => absurd qq (q0)) rfl (fun qq => ?_)
      refine JX_dload (i := 7) (q := 0) (pc1 := 1466) dL_law_1464 rfl rfl ?_
      refine JX_dload (i := 7) (q := 0) (pc1 := 1468) dL_law_1466 rfl rfl ?_
      refine JX_dcmp (v := (Op.cmpValue (FP.dcmp b9 b9) .l)) (pc1 := 1469) dL_law_1468 rfl rfl ?_
      refine JX_if_ne (tgt := 1474) (pc1 := 1472) dL_law_1469 (by decide) (fun qq => ?_) rfl (fun qq => absurd qq (q0))
      refine JX_goto (tgt := 1748) dL_law_1474 (by decide) ?_
      exact JX_sub [2, 3, 4, 5, 6, 7] rfl (JX_widen (by omega) (by omega) (hN _ _ _ _ _ _ _ _ _ _ _ _ _ hS1 hr9 hZ9 hI1))
theorem lwC_write (hlz : l.stackTraces = false) (hx : va_X b L xs s s.heap) (hbl : b < s.heap.size) (hL : 4 * n + 4 ≤ L) (hL2 : L ≤ 2048) (hI : gI (mxE gE_R E) (mxA adr ad)) (hS : cSt a0 S sv β len T E kd ad rh μc) (hr : rSt n S sv β len T μr) (hZ : lJ n S sv) (hN : lwN p l e s m below meth c D tc sa cJ cD x1 x2 adr b Q a0 (n + 1) (4 * n)) : JL p l e s m below meth c D tc sa cJ cD x1 x2 adr b Q E kd ad rh μr μc v8 d8 (1000 + 300 * n) (10000 + 5000 * n) 1579 [(5, .int (nI (4 * n))), (4, .ref x2), (3, .ref x1), (2, .ref (adr 0 0)), (1, .ref a0), (0, .ref b)] [] := by
  have hn : n ≤ 600 := by omega
  have hIR : gI gE_R adr := gI_mxa mxL_R.1 hI
  by_cases ha : 0 ≤ (xs (4 * n + 1)).toInt ∧ (xs (4 * n + 1)).toInt < 5
  · skip
    refine JX_aload_n (i := 1) (q := 4) (pc1 := 1580) dL_law_1579 rfl rfl rfl ?_
    refine JX_aload_n (i := 0) (q := 5) (pc1 := 1581) dL_law_1580 rfl rfl rfl ?_
    refine JX_iload (i := 5) (q := 0) (pc1 := 1583) dL_law_1581 rfl rfl ?_
    refine JX_iconst (v := 1) (pc1 := 1584) dL_law_1583 (by decide) rfl ?_
    refine JX_iadd (pc1 := 1585) dL_law_1584 rfl ?_
    refine JX_eqI (y := nI (4 * n + 1)) (nI_add (4 * n) 1) ?_
    refine JX_sld (x := xs (4 * n + 1)) (pc1 := 1586) hx hbl (Nat.not_le.mpr hbl) (vp_in_nI (by omega) (by omega)) (by rw [nI_clamp (by omega)]) dL_law_1585 rfl ?_
    refine JX_aload_n (i := 3) (q := 2) (pc1 := 1587) dL_law_1586 rfl rfl rfl ?_
    refine JX_mixBW (ce := 1000 + 300 * n + 80) (sl := 10000 + 5000 * n + 2900) (pc1 := 1590) (st := []) (As := [.ref a0, .int (xs (4 * n + 1)), .ref x1]) hI mxL_R (lW_write_y (a1 := xs (4 * n + 1)) hlz hS hZ.1 hn (k := (xs (4 * n + 1)).toInt.toNat) (by omega) (by omega)) wwL_write wlL_190 rfl ⟨Nat.le_of_ble_eq_true rfl, Nat.le_of_ble_eq_true rfl⟩ ⟨by show 1000 + 300 * n + 80 ≤ 603072; omega, by show 10000 + 5000 * n + 2900 ≤ 7219305; omega⟩ (Nat.le_of_ble_eq_true rfl) dL_law_1587 rfl rfl rfl (fun o E1 kd1 ad1 rh1 μ1 w8 e8 hp hI1 => ?_)
    obtain ⟨rfl, hS1, hv⟩ := hp
    show JL p l e s m below meth c D tc sa cJ cD x1 x2 adr b Q E1 kd1 ad1 rh1 μr μ1 w8 e8 (1000 + 300 * n + 80) (10000 + 5000 * n + 2900) 1590 [(5, .int (nI (4 * n))), (4, .ref x2), (3, .ref x1), (2, .ref (adr 0 0)), (1, .ref a0), (0, .ref b)] [.int (nI 0)]
    refine JX_istore (i := 6) (lv1 := [(6, .int (nI 0)), (5, .int (nI (4 * n))), (4, .ref x2), (3, .ref x1), (2, .ref (adr 0 0)), (1, .ref a0), (0, .ref b)]) (pc1 := 1592) dL_law_1590 (by decide) rfl rfl ?_
    refine JX_aload_n (i := 2) (q := 4) (pc1 := 1593) dL_law_1592 rfl rfl rfl ?_
    refine JX_aload_n (i := 0) (q := 6) (pc1 := 1594) dL_law_1593 rfl rfl rfl ?_
    refine JX_iload (i := 5) (q := 1) (pc1 := 1596) dL_law_1594 rfl rfl ?_
    refine JX_iconst (v := 1) (pc1 := 1597) dL_law_1596 (by decide) rfl ?_
    refine JX_iadd (pc1 := 1598) dL_law_1597 rfl ?_
    refine JX_eqI (y := nI (4 * n + 1)) (nI_add (4 * n) 1) ?_
    refine JX_sld (x := xs (4 * n + 1)) (pc1 := 1599) hx hbl (Nat.not_le.mpr hbl) (vp_in_nI (by omega) (by omega)) (by rw [nI_clamp (by omega)]) dL_law_1598 rfl ?_
    obtain ⟨μ9, hM, hc9, hle, hr9, hZ9⟩ := rC_write_y (l := l) (D := D) (tc := tc) (sa := sa) (ad := adr) (a1 := xs (4 * n + 1)) (k := (xs (4 * n + 1)).toInt.toNat) hIR hr hZ hn (by omega) (by omega)
    have hb9 : (0 : Nat) = 0 → (nI (txL (zno S (xs (4 * n + 1)).toInt.toNat)).length).toInt = ((txL (zno S (xs (4 * n + 1)).toInt.toNat)).length : Int) := fun _ => nI_toInt (by omega)
    refine JX_mixAM (mc := 200) (ms := 2000) (o := some (.int (nI (txL (zno S (xs (4 * n + 1)).toInt.toNat)).length))) (μ1 := μ9) (pc1 := 1602) (st := []) (st1 := [.int (nI (txL (zno S (xs (4 * n + 1)).toInt.toNat)).length)]) (ce := 1000 + 300 * n + 80 + 200) (sl := 10000 + 5000 * n + 2900 + 2000) hI1 mxL_R (J_hV (st := []) (As := [.int (xs (4 * n + 1))]) (hM) wcX7_write rfl wlL_192 (mxA_a (by decide)).symm (mxE_a eR0) rfl rfl rfl ⟨Nat.le_of_ble_eq_true rfl, Nat.le_of_ble_eq_true rfl⟩ ⟨by show 1000 + 300 * n + 80 + 200 ≤ 603072; omega, by show 10000 + 5000 * n + 2900 + 2000 ≤ 7219305; omega⟩ (Nat.le_of_ble_eq_true rfl) dL_law_1599) rfl rfl rfl rfl ?_
    refine JX_istore (i := 7) (lv1 := [(7, .int (nI (txL (zno S (xs (4 * n + 1)).toInt.toNat)).length)), (6, .int (nI 0)), (5, .int (nI (4 * n))), (4, .ref x2), (3, .ref x1), (2, .ref (adr 0 0)), (1, .ref a0), (0, .ref b)]) (pc1 := 1604) dL_law_1602 (by decide) rfl rfl ?_
    refine JX_aload_n (i := 2) (q := 5) (pc1 := 1605) dL_law_1604 rfl rfl rfl ?_
    refine JX_mixAM (mc := 0) (ms := 0) (o := some (.int (μ9 0 0 0))) (μ1 := μ9) (pc1 := 1608) (st := []) (st1 := [.int (μ9 0 0 0)]) (ce := 1000 + 300 * n + 80 + 200) (sl := 10000 + 5000 * n + 2900 + 2000) hI1 mxL_R (J_hV (st := []) (As := []) (rC_thrown hIR) wcX7_thrown rfl wlL_114 (mxA_a (by decide)).symm (mxE_a eR0) rfl rfl rfl ⟨Nat.le_of_ble_eq_true rfl, Nat.le_of_ble_eq_true rfl⟩ ⟨by show 1000 + 300 * n + 80 + 200 + 0 ≤ 603072; omega, by show 10000 + 5000 * n + 2900 + 2000 + 0 ≤ 7219305; omega⟩ (Nat.le_of_ble_eq_true rfl) dL_law_1605) rfl rfl rfl rfl ?_
    refine JX_iload (i := 6) (q := 1) (pc1 := 1610) dL_law_1608 rfl rfl ?_
    refine JX_icmp_eq (tgt := 1615) (pc1 := 1613) dL_law_1610 (by decide) (fun qq => ?_) rfl (fun qq => absurd (th_eq hc9 (Nat.zero_le _)) qq)
    refine JX_iload (i := 6) (q := 1) (pc1 := 1617) dL_law_1615 rfl rfl ?_
    refine JX_if_ne (tgt := 1632) (pc1 := 1620) dL_law_1617 (by decide) (fun qq => ?_) rfl (fun qq => ?_)
    · skip
      refine JX_goto (tgt := 1748) dL_law_1632 (by decide) ?_
      exact JX_sub [2, 3, 4, 5, 6, 7] rfl (JX_widen (by omega) (by omega) (hN _ _ _ _ _ _ _ _ _ _ _ _ _ hS1 hr9 hZ9 hI1))
    · skip
      have h0 := th_0 qq (Nat.zero_le _)
      obtain ⟨r9, rfl, hr0⟩ := hv h0
      have e9 : r9 = (nI (txL (zno S (xs (4 * n + 1)).toInt.toNat)).length) := Int32.toInt_inj.mp (hr0.trans (hb9 h0).symm)
      rw [e9]
      refine JX_aload_n (i := 3) (q := 4) (pc1 := 1621) dL_law_1620 rfl rfl rfl ?_
      refine JX_iconst (v := 0) (pc1 := 1622) dL_law_1621 (by decide) rfl ?_
      refine JX_lald (pc1 := 1623) dL_law_1622 rfl ?_
      refine JX_iload (i := 7) (q := 0) (pc1 := 1625) dL_law_1623 rfl rfl ?_
      refine JX_i2l (v := ((nI (txL (zno S (xs (4 * n + 1)).toInt.toNat)).length)).toInt64) (pc1 := 1626) dL_law_1625 rfl rfl ?_
      refine JX_lcmp (v := 0) (pc1 := 1627) dL_law_1626 (lg_self _) rfl ?_
      refine JX_if_eq (tgt := 1632) (pc1 := 1630) dL_law_1627 (by decide) (fun qq => ?_) rfl (fun qq => absurd (rfl) qq)
      refine JX_goto (tgt := 1748) dL_law_1632 (by decide) ?_
      exact JX_sub [2, 3, 4, 5, 6, 7] rfl (JX_widen (by omega) (by omega) (hN _ _ _ _ _ _ _ _ _ _ _ _ _ hS1 hr9 hZ9 hI1))
  · skip
    refine JX_aload_n (i := 1) (q := 4) (pc1 := 1580) dL_law_1579 rfl rfl rfl ?_
    refine JX_aload_n (i := 0) (q := 5) (pc1 := 1581) dL_law_1580 rfl rfl rfl ?_
    refine JX_iload (i := 5) (q := 0) (pc1 := 1583) dL_law_1581 rfl rfl ?_
    refine JX_iconst (v := 1) (pc1 := 1584) dL_law_1583 (by decide) rfl ?_
    refine JX_iadd (pc1 := 1585) dL_law_1584 rfl ?_
    refine JX_eqI (y := nI (4 * n + 1)) (nI_add (4 * n) 1) ?_
    refine JX_sld (x := xs (4 * n + 1)) (pc1 := 1586) hx hbl (Nat.not_le.mpr hbl) (vp_in_nI (by omega) (by omega)) (by rw [nI_clamp (by omega)]) dL_law_1585 rfl ?_
    refine JX_aload_n (i := 3) (q := 2) (pc1 := 1587) dL_law_1586 rfl rfl rfl ?_
    refine JX_mixBW (ce := 1000 + 300 * n + 80) (sl := 10000 + 5000 * n + 2900) (pc1 := 1590) (st := []) (As := [.ref a0, .int (xs (4 * n + 1)), .ref x1]) hI mxL_R (lW_write_n (a1 := xs (4 * n + 1)) hlz hS hZ.1 hn ha) wwL_write wlL_190 rfl ⟨Nat.le_of_ble_eq_true rfl, Nat.le_of_ble_eq_true rfl⟩ ⟨by show 1000 + 300 * n + 80 ≤ 603072; omega, by show 10000 + 5000 * n + 2900 ≤ 7219305; omega⟩ (Nat.le_of_ble_eq_true rfl) dL_law_1587 rfl rfl rfl (fun o E1 kd1 ad1 rh1 μ1 w8 e8 hp hI1 => ?_)
    obtain ⟨rfl, hS1, hv⟩ := hp
    show JL p l e s m below meth c D tc sa cJ cD x1 x2 adr b Q E1 kd1 ad1 rh1 μr μ1 w8 e8 (1000 + 300 * n + 80) (10000 + 5000 * n + 2900) 1590 [(5, .int (nI (4 * n))), (4, .ref x2), (3, .ref x1), (2, .ref (adr 0 0)), (1, .ref a0), (0, .ref b)] [.int (nI 1)]
    refine JX_istore (i := 6) (lv1 := [(6, .int (nI 1)), (5, .int (nI (4 * n))), (4, .ref x2), (3, .ref x1), (2, .ref (adr 0 0)), (1, .ref a0), (0, .ref b)]) (pc1 := 1592) dL_law_1590 (by decide) rfl rfl ?_
    refine JX_aload_n (i := 2) (q := 4) (pc1 := 1593) dL_law_1592 rfl rfl rfl ?_
    refine JX_aload_n (i := 0) (q := 6) (pc1 := 1594) dL_law_1593 rfl rfl rfl ?_
    refine JX_iload (i := 5) (q := 1) (pc1 := 1596) dL_law_1594 rfl rfl ?_
    refine JX_iconst (v := 1) (pc1 := 1597) dL_law_1596 (by decide) rfl ?_
    refine JX_iadd (pc1 := 1598) dL_law_1597 rfl ?_
    refine JX_eqI (y := nI (4 * n + 1)) (nI_add (4 * n) 1) ?_
    refine JX_sld (x := xs (4 * n + 1)) (pc1 := 1599) hx hbl (Nat.not_le.mpr hbl) (vp_in_nI (by omega) (by omega)) (by rw [nI_clamp (by omega)]) dL_law_1598 rfl ?_
    obtain ⟨μ9, hM, hc9, hr9, hZ9⟩ := rC_write_n (l := l) (D := D) (tc := tc) (sa := sa) (ad := adr) (a1 := xs (4 * n + 1)) hIR hr hZ hn ha
    have hb9 : (1 : Nat) = 0 → (0 : Int32).toInt = 0 := fun _ => rfl
    refine JX_mixAM (mc := 200) (ms := 2000) (o := some (.int 0)) (μ1 := μ9) (pc1 := 1602) (st := []) (st1 := [.int 0]) (ce := 1000 + 300 * n + 80 + 200) (sl := 10000 + 5000 * n + 2900 + 2000) hI1 mxL_R (J_hV (st := []) (As := [.int (xs (4 * n + 1))]) (hM) wcX7_write rfl wlL_192 (mxA_a (by decide)).symm (mxE_a eR0) rfl rfl rfl ⟨Nat.le_of_ble_eq_true rfl, Nat.le_of_ble_eq_true rfl⟩ ⟨by show 1000 + 300 * n + 80 + 200 ≤ 603072; omega, by show 10000 + 5000 * n + 2900 + 2000 ≤ 7219305; omega⟩ (Nat.le_of_ble_eq_true rfl) dL_law_1599) rfl rfl rfl rfl ?_
    refine JX_istore (i := 7) (lv1 := [(7, .int 0), (6, .int (nI 1)), (5, .int (nI (4 * n))), (4, .ref x2), (3, .ref x1), (2, .ref (adr 0 0)), (1, .ref a0), (0, .ref b)]) (pc1 := 1604) dL_law_1602 (by decide) rfl rfl ?_
    refine JX_aload_n (i := 2) (q := 5) (pc1 := 1605) dL_law_1604 rfl rfl rfl ?_
    refine JX_mixAM (mc := 0) (ms := 0) (o := some (.int (μ9 0 0 0))) (μ1 := μ9) (pc1 := 1608) (st := []) (st1 := [.int (μ9 0 0 0)]) (ce := 1000 + 300 * n + 80 + 200) (sl := 10000 + 5000 * n + 2900 + 2000) hI1 mxL_R (J_hV (st := []) (As := []) (rC_thrown hIR) wcX7_thrown rfl wlL_114 (mxA_a (by decide)).symm (mxE_a eR0) rfl rfl rfl ⟨Nat.le_of_ble_eq_true rfl, Nat.le_of_ble_eq_true rfl⟩ ⟨by show 1000 + 300 * n + 80 + 200 + 0 ≤ 603072; omega, by show 10000 + 5000 * n + 2900 + 2000 + 0 ≤ 7219305; omega⟩ (Nat.le_of_ble_eq_true rfl) dL_law_1605) rfl rfl rfl rfl ?_
    refine JX_iload (i := 6) (q := 1) (pc1 := 1610) dL_law_1608 rfl rfl ?_
    refine JX_icmp_eq (tgt := 1615) (pc1 := 1613) dL_law_1610 (by decide) (fun qq => ?_) rfl (fun qq => absurd (th_eq hc9 (by decide)) qq)
    refine JX_iload (i := 6) (q := 1) (pc1 := 1617) dL_law_1615 rfl rfl ?_
    refine JX_if_ne (tgt := 1632) (pc1 := 1620) dL_law_1617 (by decide) (fun qq => ?_) rfl (fun qq => ?_)
    · skip
      refine JX_goto (tgt := 1748) dL_law_1632 (by decide) ?_
      exact JX_sub [2, 3, 4, 5, 6, 7] rfl (JX_widen (by omega) (by omega) (hN _ _ _ _ _ _ _ _ _ _ _ _ _ hS1 hr9 hZ9 hI1))
    · skip
      have h0 := th_0 qq (by decide)
      obtain ⟨r9, rfl, hr0⟩ := hv h0
      have e9 : r9 = 0 := Int32.toInt_inj.mp (hr0.trans (hb9 h0).symm)
      rw [e9]
      refine JX_aload_n (i := 3) (q := 4) (pc1 := 1621) dL_law_1620 rfl rfl rfl ?_
      refine JX_iconst (v := 0) (pc1 := 1622) dL_law_1621 (by decide) rfl ?_
      refine JX_lald (pc1 := 1623) dL_law_1622 rfl ?_
      refine JX_iload (i := 7) (q := 0) (pc1 := 1625) dL_law_1623 rfl rfl ?_
      refine JX_i2l (v := (0).toInt64) (pc1 := 1626) dL_law_1625 rfl rfl ?_
      refine JX_lcmp (v := 0) (pc1 := 1627) dL_law_1626 (lg_self _) rfl ?_
      refine JX_if_eq (tgt := 1632) (pc1 := 1630) dL_law_1627 (by decide) (fun qq => ?_) rfl (fun qq => absurd (rfl) qq)
      refine JX_goto (tgt := 1748) dL_law_1632 (by decide) ?_
      exact JX_sub [2, 3, 4, 5, 6, 7] rfl (JX_widen (by omega) (by omega) (hN _ _ _ _ _ _ _ _ _ _ _ _ _ hS1 hr9 hZ9 hI1))
theorem lwC_text (hlz : l.stackTraces = false) (hx : va_X b L xs s s.heap) (hbl : b < s.heap.size) (hL : 4 * n + 4 ≤ L) (hL2 : L ≤ 2048) (hI : gI (mxE gE_R E) (mxA adr ad)) (hS : cSt a0 S sv β len T E kd ad rh μc) (hr : rSt n S sv β len T μr) (hZ : lJ n S sv) (hN : lwN p l e s m below meth c D tc sa cJ cD x1 x2 adr b Q a0 (n + 1) (4 * n)) : JL p l e s m below meth c D tc sa cJ cD x1 x2 adr b Q E kd ad rh μr μc v8 d8 (1000 + 300 * n) (10000 + 5000 * n) 1635 [(5, .int (nI (4 * n))), (4, .ref x2), (3, .ref x1), (2, .ref (adr 0 0)), (1, .ref a0), (0, .ref b)] [] := by
  have hn : n ≤ 600 := by omega
  have hIR : gI gE_R adr := gI_mxa mxL_R.1 hI
  by_cases ha : 0 ≤ (xs (4 * n + 1)).toInt ∧ (xs (4 * n + 1)).toInt < T.length
  · skip
    have hk9 : (xs (4 * n + 1)).toInt.toNat < T.length := by omega
    have hT9 : T.length ≤ 700 := hr.2.2.2.2.1
    have e1 : nI (xs (4 * n + 1)).toInt.toNat = xs (4 * n + 1) := Int32.toInt_inj.mp ((nI_toInt (by omega)).trans (by omega))
    have hw9 := lW_text_y (D := D) (tc := tc) (sa := sa) (cJ := cJ) (cD := cD) (x1 := x1) (x2 := x2) (v8 := v8) (d8 := d8) hlz hS hZ.1 hn hk9
    rw [e1] at hw9
    refine JX_aload_n (i := 1) (q := 4) (pc1 := 1636) dL_law_1635 rfl rfl rfl ?_
    refine JX_aload_n (i := 0) (q := 5) (pc1 := 1637) dL_law_1636 rfl rfl rfl ?_
    refine JX_iload (i := 5) (q := 0) (pc1 := 1639) dL_law_1637 rfl rfl ?_
    refine JX_iconst (v := 1) (pc1 := 1640) dL_law_1639 (by decide) rfl ?_
    refine JX_iadd (pc1 := 1641) dL_law_1640 rfl ?_
    refine JX_eqI (y := nI (4 * n + 1)) (nI_add (4 * n) 1) ?_
    refine JX_sld (x := xs (4 * n + 1)) (pc1 := 1642) hx hbl (Nat.not_le.mpr hbl) (vp_in_nI (by omega) (by omega)) (by rw [nI_clamp (by omega)]) dL_law_1641 rfl ?_
    refine JX_aload_n (i := 3) (q := 2) (pc1 := 1643) dL_law_1642 rfl rfl rfl ?_
    refine JX_mixBW (ce := 1000 + 300 * n + 1) (sl := 10000 + 5000 * n + 6) (pc1 := 1646) (st := []) (As := [.ref a0, .int (xs (4 * n + 1)), .ref x1]) hI mxL_R (hw9) wwL_text wlL_193 rfl ⟨Nat.le_of_ble_eq_true rfl, Nat.le_of_ble_eq_true rfl⟩ ⟨by show 1000 + 300 * n + 1 ≤ 603072; omega, by show 10000 + 5000 * n + 6 ≤ 7219305; omega⟩ (Nat.le_of_ble_eq_true rfl) dL_law_1643 rfl rfl rfl (fun o E1 kd1 ad1 rh1 μ1 w8 e8 hp hI1 => ?_)
    obtain ⟨rfl, hS1, hv⟩ := hp
    show JL p l e s m below meth c D tc sa cJ cD x1 x2 adr b Q E1 kd1 ad1 rh1 μr μ1 w8 e8 (1000 + 300 * n + 1) (10000 + 5000 * n + 6) 1646 [(5, .int (nI (4 * n))), (4, .ref x2), (3, .ref x1), (2, .ref (adr 0 0)), (1, .ref a0), (0, .ref b)] [.int (nI 0)]
    refine JX_istore (i := 6) (lv1 := [(6, .int (nI 0)), (5, .int (nI (4 * n))), (4, .ref x2), (3, .ref x1), (2, .ref (adr 0 0)), (1, .ref a0), (0, .ref b)]) (pc1 := 1648) dL_law_1646 (by decide) rfl rfl ?_
    refine JX_aload_n (i := 2) (q := 4) (pc1 := 1649) dL_law_1648 rfl rfl rfl ?_
    refine JX_aload_n (i := 0) (q := 6) (pc1 := 1650) dL_law_1649 rfl rfl rfl ?_
    refine JX_iload (i := 5) (q := 1) (pc1 := 1652) dL_law_1650 rfl rfl ?_
    refine JX_iconst (v := 1) (pc1 := 1653) dL_law_1652 (by decide) rfl ?_
    refine JX_iadd (pc1 := 1654) dL_law_1653 rfl ?_
    refine JX_eqI (y := nI (4 * n + 1)) (nI_add (4 * n) 1) ?_
    refine JX_sld (x := xs (4 * n + 1)) (pc1 := 1655) hx hbl (Nat.not_le.mpr hbl) (vp_in_nI (by omega) (by omega)) (by rw [nI_clamp (by omega)]) dL_law_1654 rfl ?_
    obtain ⟨b9, μ9, hM, hc9, hb0, hr9, hZ9⟩ := rC_text (l := l) (D := D) (tc := tc) (sa := sa) (ad := adr) (a1 := xs (4 * n + 1)) hIR hr hZ hn
    rw [if_pos ha] at hc9
    have hlt9 := T_lt hS hk9
    have hb9 : (0 : Nat) = 0 → b9.toInt = ((T.getD (xs (4 * n + 1)).toInt.toNat 0 : Nat) : Int) := fun _ => by rw [hb0 ha]; exact nI_toInt (by omega)
    refine JX_mixAM (mc := 0) (ms := 0) (o := some (.int b9)) (μ1 := μ9) (pc1 := 1658) (st := []) (st1 := [.int b9]) (ce := 1000 + 300 * n + 1) (sl := 10000 + 5000 * n + 6) hI1 mxL_R (J_hV (st := []) (As := [.int (xs (4 * n + 1))]) (hM) wcX7_text rfl wlL_195 (mxA_a (by decide)).symm (mxE_a eR0) rfl rfl rfl ⟨Nat.le_of_ble_eq_true rfl, Nat.le_of_ble_eq_true rfl⟩ ⟨by show 1000 + 300 * n + 1 + 0 ≤ 603072; omega, by show 10000 + 5000 * n + 6 + 0 ≤ 7219305; omega⟩ (Nat.le_of_ble_eq_true rfl) dL_law_1655) rfl rfl rfl rfl ?_
    refine JX_istore (i := 7) (lv1 := [(7, .int b9), (6, .int (nI 0)), (5, .int (nI (4 * n))), (4, .ref x2), (3, .ref x1), (2, .ref (adr 0 0)), (1, .ref a0), (0, .ref b)]) (pc1 := 1660) dL_law_1658 (by decide) rfl rfl ?_
    refine JX_aload_n (i := 2) (q := 5) (pc1 := 1661) dL_law_1660 rfl rfl rfl ?_
    refine JX_mixAM (mc := 0) (ms := 0) (o := some (.int (μ9 0 0 0))) (μ1 := μ9) (pc1 := 1664) (st := []) (st1 := [.int (μ9 0 0 0)]) (ce := 1000 + 300 * n + 1) (sl := 10000 + 5000 * n + 6) hI1 mxL_R (J_hV (st := []) (As := []) (rC_thrown hIR) wcX7_thrown rfl wlL_114 (mxA_a (by decide)).symm (mxE_a eR0) rfl rfl rfl ⟨Nat.le_of_ble_eq_true rfl, Nat.le_of_ble_eq_true rfl⟩ ⟨by show 1000 + 300 * n + 1 + 0 ≤ 603072; omega, by show 10000 + 5000 * n + 6 + 0 ≤ 7219305; omega⟩ (Nat.le_of_ble_eq_true rfl) dL_law_1661) rfl rfl rfl rfl ?_
    refine JX_iload (i := 6) (q := 1) (pc1 := 1666) dL_law_1664 rfl rfl ?_
    refine JX_icmp_eq (tgt := 1671) (pc1 := 1669) dL_law_1666 (by decide) (fun qq => ?_) rfl (fun qq => absurd (th_eq hc9 (Nat.zero_le _)) qq)
    refine JX_iload (i := 6) (q := 1) (pc1 := 1673) dL_law_1671 rfl rfl ?_
    refine JX_if_ne (tgt := 1688) (pc1 := 1676) dL_law_1673 (by decide) (fun qq => ?_) rfl (fun qq => ?_)
    · skip
      refine JX_goto (tgt := 1748) dL_law_1688 (by decide) ?_
      exact JX_sub [2, 3, 4, 5, 6, 7] rfl (JX_widen (by omega) (by omega) (hN _ _ _ _ _ _ _ _ _ _ _ _ _ hS1 hr9 hZ9 hI1))
    · skip
      have h0 := th_0 qq (Nat.zero_le _)
      obtain ⟨r9, rfl, hr0⟩ := hv h0
      have e9 : r9 = b9 := Int32.toInt_inj.mp (hr0.trans (hb9 h0).symm)
      rw [e9]
      refine JX_aload_n (i := 3) (q := 4) (pc1 := 1677) dL_law_1676 rfl rfl rfl ?_
      refine JX_iconst (v := 0) (pc1 := 1678) dL_law_1677 (by decide) rfl ?_
      refine JX_lald (pc1 := 1679) dL_law_1678 rfl ?_
      refine JX_iload (i := 7) (q := 0) (pc1 := 1681) dL_law_1679 rfl rfl ?_
      refine JX_i2l (v := (b9).toInt64) (pc1 := 1682) dL_law_1681 rfl rfl ?_
      refine JX_lcmp (v := 0) (pc1 := 1683) dL_law_1682 (lg_self _) rfl ?_
      refine JX_if_eq (tgt := 1688) (pc1 := 1686) dL_law_1683 (by decide) (fun qq => ?_) rfl (fun qq => absurd (rfl) qq)
      refine JX_goto (tgt := 1748) dL_law_1688 (by decide) ?_
      exact JX_sub [2, 3, 4, 5, 6, 7] rfl (JX_widen (by omega) (by omega) (hN _ _ _ _ _ _ _ _ _ _ _ _ _ hS1 hr9 hZ9 hI1))
  · skip
    refine JX_aload_n (i := 1) (q := 4) (pc1 := 1636) dL_law_1635 rfl rfl rfl ?_
    refine JX_aload_n (i := 0) (q := 5) (pc1 := 1637) dL_law_1636 rfl rfl rfl ?_
    refine JX_iload (i := 5) (q := 0) (pc1 := 1639) dL_law_1637 rfl rfl ?_
    refine JX_iconst (v := 1) (pc1 := 1640) dL_law_1639 (by decide) rfl ?_
    refine JX_iadd (pc1 := 1641) dL_law_1640 rfl ?_
    refine JX_eqI (y := nI (4 * n + 1)) (nI_add (4 * n) 1) ?_
    refine JX_sld (x := xs (4 * n + 1)) (pc1 := 1642) hx hbl (Nat.not_le.mpr hbl) (vp_in_nI (by omega) (by omega)) (by rw [nI_clamp (by omega)]) dL_law_1641 rfl ?_
    refine JX_aload_n (i := 3) (q := 2) (pc1 := 1643) dL_law_1642 rfl rfl rfl ?_
    refine JX_mixBW (ce := 1000 + 300 * n + 1) (sl := 10000 + 5000 * n + 6) (pc1 := 1646) (st := []) (As := [.ref a0, .int (xs (4 * n + 1)), .ref x1]) hI mxL_R (lW_text_n (a1 := xs (4 * n + 1)) hlz hS hZ.1 hn (fun k e hk => ha (by have hT9 : T.length ≤ 700 := hr.2.2.2.2.1; rw [e, nI_toInt (by omega)]; omega))) wwL_text wlL_193 rfl ⟨Nat.le_of_ble_eq_true rfl, Nat.le_of_ble_eq_true rfl⟩ ⟨by show 1000 + 300 * n + 1 ≤ 603072; omega, by show 10000 + 5000 * n + 6 ≤ 7219305; omega⟩ (Nat.le_of_ble_eq_true rfl) dL_law_1643 rfl rfl rfl (fun o E1 kd1 ad1 rh1 μ1 w8 e8 hp hI1 => ?_)
    obtain ⟨rfl, hS1, hv⟩ := hp
    show JL p l e s m below meth c D tc sa cJ cD x1 x2 adr b Q E1 kd1 ad1 rh1 μr μ1 w8 e8 (1000 + 300 * n + 1) (10000 + 5000 * n + 6) 1646 [(5, .int (nI (4 * n))), (4, .ref x2), (3, .ref x1), (2, .ref (adr 0 0)), (1, .ref a0), (0, .ref b)] [.int (nI 1)]
    refine JX_istore (i := 6) (lv1 := [(6, .int (nI 1)), (5, .int (nI (4 * n))), (4, .ref x2), (3, .ref x1), (2, .ref (adr 0 0)), (1, .ref a0), (0, .ref b)]) (pc1 := 1648) dL_law_1646 (by decide) rfl rfl ?_
    refine JX_aload_n (i := 2) (q := 4) (pc1 := 1649) dL_law_1648 rfl rfl rfl ?_
    refine JX_aload_n (i := 0) (q := 6) (pc1 := 1650) dL_law_1649 rfl rfl rfl ?_
    refine JX_iload (i := 5) (q := 1) (pc1 := 1652) dL_law_1650 rfl rfl ?_
    refine JX_iconst (v := 1) (pc1 := 1653) dL_law_1652 (by decide) rfl ?_
    refine JX_iadd (pc1 := 1654) dL_law_1653 rfl ?_
    refine JX_eqI (y := nI (4 * n + 1)) (nI_add (4 * n) 1) ?_
    refine JX_sld (x := xs (4 * n + 1)) (pc1 := 1655) hx hbl (Nat.not_le.mpr hbl) (vp_in_nI (by omega) (by omega)) (by rw [nI_clamp (by omega)]) dL_law_1654 rfl ?_
    obtain ⟨b9, μ9, hM, hc9, hb0, hr9, hZ9⟩ := rC_text (l := l) (D := D) (tc := tc) (sa := sa) (ad := adr) (a1 := xs (4 * n + 1)) hIR hr hZ hn
    rw [if_neg ha] at hc9
    have hb9 : (1 : Nat) = 0 → b9.toInt = 0 := fun z => absurd z (by decide)
    refine JX_mixAM (mc := 0) (ms := 0) (o := some (.int b9)) (μ1 := μ9) (pc1 := 1658) (st := []) (st1 := [.int b9]) (ce := 1000 + 300 * n + 1) (sl := 10000 + 5000 * n + 6) hI1 mxL_R (J_hV (st := []) (As := [.int (xs (4 * n + 1))]) (hM) wcX7_text rfl wlL_195 (mxA_a (by decide)).symm (mxE_a eR0) rfl rfl rfl ⟨Nat.le_of_ble_eq_true rfl, Nat.le_of_ble_eq_true rfl⟩ ⟨by show 1000 + 300 * n + 1 + 0 ≤ 603072; omega, by show 10000 + 5000 * n + 6 + 0 ≤ 7219305; omega⟩ (Nat.le_of_ble_eq_true rfl) dL_law_1655) rfl rfl rfl rfl ?_
    refine JX_istore (i := 7) (lv1 := [(7, .int b9), (6, .int (nI 1)), (5, .int (nI (4 * n))), (4, .ref x2), (3, .ref x1), (2, .ref (adr 0 0)), (1, .ref a0), (0, .ref b)]) (pc1 := 1660) dL_law_1658 (by decide) rfl rfl ?_
    refine JX_aload_n (i := 2) (q := 5) (pc1 := 1661) dL_law_1660 rfl rfl rfl ?_
    refine JX_mixAM (mc := 0) (ms := 0) (o := some (.int (μ9 0 0 0))) (μ1 := μ9) (pc1 := 1664) (st := []) (st1 := [.int (μ9 0 0 0)]) (ce := 1000 + 300 * n + 1) (sl := 10000 + 5000 * n + 6) hI1 mxL_R (J_hV (st := []) (As := []) (rC_thrown hIR) wcX7_thrown rfl wlL_114 (mxA_a (by decide)).symm (mxE_a eR0) rfl rfl rfl ⟨Nat.le_of_ble_eq_true rfl, Nat.le_of_ble_eq_true rfl⟩ ⟨by show 1000 + 300 * n + 1 + 0 ≤ 603072; omega, by show 10000 + 5000 * n + 6 + 0 ≤ 7219305; omega⟩ (Nat.le_of_ble_eq_true rfl) dL_law_1661) rfl rfl rfl rfl ?_
    refine JX_iload (i := 6) (q := 1) (pc1 := 1666) dL_law_1664 rfl rfl ?_
    refine JX_icmp_eq (tgt := 1671) (pc1 := 1669) dL_law_1666 (by decide) (fun qq => ?_) rfl (fun qq => absurd (th_eq hc9 (by decide)) qq)
    refine JX_iload (i := 6) (q := 1) (pc1 := 1673) dL_law_1671 rfl rfl ?_
    refine JX_if_ne (tgt := 1688) (pc1 := 1676) dL_law_1673 (by decide) (fun qq => ?_) rfl (fun qq => ?_)
    · skip
      refine JX_goto (tgt := 1748) dL_law_1688 (by decide) ?_
      exact JX_sub [2, 3, 4, 5, 6, 7] rfl (JX_widen (by omega) (by omega) (hN _ _ _ _ _ _ _ _ _ _ _ _ _ hS1 hr9 hZ9 hI1))
    · skip
      have h0 := th_0 qq (by decide)
      obtain ⟨r9, rfl, hr0⟩ := hv h0
      have e9 : r9 = b9 := Int32.toInt_inj.mp (hr0.trans (hb9 h0).symm)
      rw [e9]
      refine JX_aload_n (i := 3) (q := 4) (pc1 := 1677) dL_law_1676 rfl rfl rfl ?_
      refine JX_iconst (v := 0) (pc1 := 1678) dL_law_1677 (by decide) rfl ?_
      refine JX_lald (pc1 := 1679) dL_law_1678 rfl ?_
      refine JX_iload (i := 7) (q := 0) (pc1 := 1681) dL_law_1679 rfl rfl ?_
      refine JX_i2l (v := (b9).toInt64) (pc1 := 1682) dL_law_1681 rfl rfl ?_
      refine JX_lcmp (v := 0) (pc1 := 1683) dL_law_1682 (lg_self _) rfl ?_
      refine JX_if_eq (tgt := 1688) (pc1 := 1686) dL_law_1683 (by decide) (fun qq => ?_) rfl (fun qq => absurd (rfl) qq)
      refine JX_goto (tgt := 1748) dL_law_1688 (by decide) ?_
      exact JX_sub [2, 3, 4, 5, 6, 7] rfl (JX_widen (by omega) (by omega) (hN _ _ _ _ _ _ _ _ _ _ _ _ _ hS1 hr9 hZ9 hI1))
theorem lwC_restore (hlz : l.stackTraces = false) (hx : va_X b L xs s s.heap) (hbl : b < s.heap.size) (hL : 4 * n + 4 ≤ L) (hL2 : L ≤ 2048) (hI : gI (mxE gE_R E) (mxA adr ad)) (hS : cSt a0 S sv β len T E kd ad rh μc) (hr : rSt n S sv β len T μr) (hZ : lJ n S sv) (hN : lwN p l e s m below meth c D tc sa cJ cD x1 x2 adr b Q a0 (n + 1) (4 * n)) : JL p l e s m below meth c D tc sa cJ cD x1 x2 adr b Q E kd ad rh μr μc v8 d8 (1000 + 300 * n) (10000 + 5000 * n) 1704 [(5, .int (nI (4 * n))), (4, .ref x2), (3, .ref x1), (2, .ref (adr 0 0)), (1, .ref a0), (0, .ref b)] [] := by
  have hn : n ≤ 600 := by omega
  have hIR : gI gE_R adr := gI_mxa mxL_R.1 hI
  rcases (show sv = none ∨ ∃ S9, sv = some S9 by cases sv; exact Or.inl rfl; exact Or.inr ⟨_, rfl⟩) with hsv9 | ⟨S9, hsv9⟩
  · skip
    refine JX_aload_n (i := 1) (q := 4) (pc1 := 1705) dL_law_1704 rfl rfl rfl ?_
    refine JX_aload_n (i := 3) (q := 2) (pc1 := 1706) dL_law_1705 rfl rfl rfl ?_
    refine JX_mixBW (ce := 1000 + 300 * n + 1) (sl := 10000 + 5000 * n + 6) (pc1 := 1709) (st := []) (As := [.ref a0, .ref x1]) hI mxL_R (lW_restore_n hlz hS hZ.1 hn hsv9) wwL_restore wlL_200 rfl ⟨Nat.le_of_ble_eq_true rfl, Nat.le_of_ble_eq_true rfl⟩ ⟨by show 1000 + 300 * n + 1 ≤ 603072; omega, by show 10000 + 5000 * n + 6 ≤ 7219305; omega⟩ (Nat.le_of_ble_eq_true rfl) dL_law_1706 rfl rfl rfl (fun o E1 kd1 ad1 rh1 μ1 w8 e8 hp hI1 => ?_)
    obtain ⟨rfl, hS1, hv⟩ := hp
    show JL p l e s m below meth c D tc sa cJ cD x1 x2 adr b Q E1 kd1 ad1 rh1 μr μ1 w8 e8 (1000 + 300 * n + 1) (10000 + 5000 * n + 6) 1709 [(5, .int (nI (4 * n))), (4, .ref x2), (3, .ref x1), (2, .ref (adr 0 0)), (1, .ref a0), (0, .ref b)] [.int (nI 1)]
    refine JX_istore (i := 6) (lv1 := [(6, .int (nI 1)), (5, .int (nI (4 * n))), (4, .ref x2), (3, .ref x1), (2, .ref (adr 0 0)), (1, .ref a0), (0, .ref b)]) (pc1 := 1711) dL_law_1709 (by decide) rfl rfl ?_
    refine JX_aload_n (i := 2) (q := 4) (pc1 := 1712) dL_law_1711 rfl rfl rfl ?_
    obtain ⟨b9, μ9, hM, hc9, hr9, hZ9⟩ := rC_restore_n (l := l) (D := D) (tc := tc) (sa := sa) (ad := adr) hIR hr hZ hn hsv9
    have hb9 : (1 : Nat) = 0 → b9.toInt = 0 := fun z => absurd z (by decide)
    refine JX_mixAM (mc := 0) (ms := 0) (o := some (.int b9)) (μ1 := μ9) (pc1 := 1715) (st := []) (st1 := [.int b9]) (ce := 1000 + 300 * n + 1) (sl := 10000 + 5000 * n + 6) hI1 mxL_R (J_hV (st := []) (As := []) (hM) wcX7_restore rfl wlL_202 (mxA_a (by decide)).symm (mxE_a eR0) rfl rfl rfl ⟨Nat.le_of_ble_eq_true rfl, Nat.le_of_ble_eq_true rfl⟩ ⟨by show 1000 + 300 * n + 1 + 0 ≤ 603072; omega, by show 10000 + 5000 * n + 6 + 0 ≤ 7219305; omega⟩ (Nat.le_of_ble_eq_true rfl) dL_law_1712) rfl rfl rfl rfl ?_
    refine JX_istore (i := 7) (lv1 := [(7, .int b9), (6, .int (nI 1)), (5, .int (nI (4 * n))), (4, .ref x2), (3, .ref x1), (2, .ref (adr 0 0)), (1, .ref a0), (0, .ref b)]) (pc1 := 1717) dL_law_1715 (by decide) rfl rfl ?_
    refine JX_aload_n (i := 2) (q := 5) (pc1 := 1718) dL_law_1717 rfl rfl rfl ?_
    refine JX_mixAM (mc := 0) (ms := 0) (o := some (.int (μ9 0 0 0))) (μ1 := μ9) (pc1 := 1721) (st := []) (st1 := [.int (μ9 0 0 0)]) (ce := 1000 + 300 * n + 1) (sl := 10000 + 5000 * n + 6) hI1 mxL_R (J_hV (st := []) (As := []) (rC_thrown hIR) wcX7_thrown rfl wlL_114 (mxA_a (by decide)).symm (mxE_a eR0) rfl rfl rfl ⟨Nat.le_of_ble_eq_true rfl, Nat.le_of_ble_eq_true rfl⟩ ⟨by show 1000 + 300 * n + 1 + 0 ≤ 603072; omega, by show 10000 + 5000 * n + 6 + 0 ≤ 7219305; omega⟩ (Nat.le_of_ble_eq_true rfl) dL_law_1718) rfl rfl rfl rfl ?_
    refine JX_iload (i := 6) (q := 1) (pc1 := 1723) dL_law_1721 rfl rfl ?_
    refine JX_icmp_eq (tgt := 1728) (pc1 := 1726) dL_law_1723 (by decide) (fun qq => ?_) rfl (fun qq => absurd (th_eq hc9 (by decide)) qq)
    refine JX_iload (i := 6) (q := 1) (pc1 := 1730) dL_law_1728 rfl rfl ?_
    refine JX_if_ne (tgt := 1745) (pc1 := 1733) dL_law_1730 (by decide) (fun qq => ?_) rfl (fun qq => ?_)
    · skip
      refine JX_goto (tgt := 1748) dL_law_1745 (by decide) ?_
      exact JX_sub [2, 3, 4, 5, 6, 7] rfl (JX_widen (by omega) (by omega) (hN _ _ _ _ _ _ _ _ _ _ _ _ _ hS1 hr9 hZ9 hI1))
    · skip
      have h0 := th_0 qq (by decide)
      obtain ⟨r9, rfl, hr0⟩ := hv h0
      have e9 : r9 = b9 := Int32.toInt_inj.mp (hr0.trans (hb9 h0).symm)
      rw [e9]
      refine JX_aload_n (i := 3) (q := 4) (pc1 := 1734) dL_law_1733 rfl rfl rfl ?_
      refine JX_iconst (v := 0) (pc1 := 1735) dL_law_1734 (by decide) rfl ?_
      refine JX_lald (pc1 := 1736) dL_law_1735 rfl ?_
      refine JX_iload (i := 7) (q := 0) (pc1 := 1738) dL_law_1736 rfl rfl ?_
      refine JX_i2l (v := (b9).toInt64) (pc1 := 1739) dL_law_1738 rfl rfl ?_
      refine JX_lcmp (v := 0) (pc1 := 1740) dL_law_1739 (lg_self _) rfl ?_
      refine JX_if_eq (tgt := 1745) (pc1 := 1743) dL_law_1740 (by decide) (fun qq => ?_) rfl (fun qq => absurd (rfl) qq)
      refine JX_goto (tgt := 1748) dL_law_1745 (by decide) ?_
      exact JX_sub [2, 3, 4, 5, 6, 7] rfl (JX_widen (by omega) (by omega) (hN _ _ _ _ _ _ _ _ _ _ _ _ _ hS1 hr9 hZ9 hI1))
  · skip
    refine JX_aload_n (i := 1) (q := 4) (pc1 := 1705) dL_law_1704 rfl rfl rfl ?_
    refine JX_aload_n (i := 3) (q := 2) (pc1 := 1706) dL_law_1705 rfl rfl rfl ?_
    refine JX_mixBW (ce := 1000 + 300 * n + 1) (sl := 10000 + 5000 * n + 6) (pc1 := 1709) (st := []) (As := [.ref a0, .ref x1]) hI mxL_R (lW_restore_y hlz hS hZ.1 hn hsv9 (hZ.2 S9 hsv9)) wwL_restore wlL_200 rfl ⟨Nat.le_of_ble_eq_true rfl, Nat.le_of_ble_eq_true rfl⟩ ⟨by show 1000 + 300 * n + 1 ≤ 603072; omega, by show 10000 + 5000 * n + 6 ≤ 7219305; omega⟩ (Nat.le_of_ble_eq_true rfl) dL_law_1706 rfl rfl rfl (fun o E1 kd1 ad1 rh1 μ1 w8 e8 hp hI1 => ?_)
    obtain ⟨rfl, hS1, hv⟩ := hp
    show JL p l e s m below meth c D tc sa cJ cD x1 x2 adr b Q E1 kd1 ad1 rh1 μr μ1 w8 e8 (1000 + 300 * n + 1) (10000 + 5000 * n + 6) 1709 [(5, .int (nI (4 * n))), (4, .ref x2), (3, .ref x1), (2, .ref (adr 0 0)), (1, .ref a0), (0, .ref b)] [.int (nI 0)]
    refine JX_istore (i := 6) (lv1 := [(6, .int (nI 0)), (5, .int (nI (4 * n))), (4, .ref x2), (3, .ref x1), (2, .ref (adr 0 0)), (1, .ref a0), (0, .ref b)]) (pc1 := 1711) dL_law_1709 (by decide) rfl rfl ?_
    refine JX_aload_n (i := 2) (q := 4) (pc1 := 1712) dL_law_1711 rfl rfl rfl ?_
    obtain ⟨b9, μ9, hM, hc9, hb0, hr9, hZ9⟩ := rC_restore_y (l := l) (D := D) (tc := tc) (sa := sa) (ad := adr) hIR hr hZ hn hsv9
    have hb9 : (0 : Nat) = 0 → b9.toInt = (zti S9 : Int) := fun _ => hb0
    refine JX_mixAM (mc := 0) (ms := 0) (o := some (.int b9)) (μ1 := μ9) (pc1 := 1715) (st := []) (st1 := [.int b9]) (ce := 1000 + 300 * n + 1) (sl := 10000 + 5000 * n + 6) hI1 mxL_R (J_hV (st := []) (As := []) (hM) wcX7_restore rfl wlL_202 (mxA_a (by decide)).symm (mxE_a eR0) rfl rfl rfl ⟨Nat.le_of_ble_eq_true rfl, Nat.le_of_ble_eq_true rfl⟩ ⟨by show 1000 + 300 * n + 1 + 0 ≤ 603072; omega, by show 10000 + 5000 * n + 6 + 0 ≤ 7219305; omega⟩ (Nat.le_of_ble_eq_true rfl) dL_law_1712) rfl rfl rfl rfl ?_
    refine JX_istore (i := 7) (lv1 := [(7, .int b9), (6, .int (nI 0)), (5, .int (nI (4 * n))), (4, .ref x2), (3, .ref x1), (2, .ref (adr 0 0)), (1, .ref a0), (0, .ref b)]) (pc1 := 1717) dL_law_1715 (by decide) rfl rfl ?_
    refine JX_aload_n (i := 2) (q := 5) (pc1 := 1718) dL_law_1717 rfl rfl rfl ?_
    refine JX_mixAM (mc := 0) (ms := 0) (o := some (.int (μ9 0 0 0))) (μ1 := μ9) (pc1 := 1721) (st := []) (st1 := [.int (μ9 0 0 0)]) (ce := 1000 + 300 * n + 1) (sl := 10000 + 5000 * n + 6) hI1 mxL_R (J_hV (st := []) (As := []) (rC_thrown hIR) wcX7_thrown rfl wlL_114 (mxA_a (by decide)).symm (mxE_a eR0) rfl rfl rfl ⟨Nat.le_of_ble_eq_true rfl, Nat.le_of_ble_eq_true rfl⟩ ⟨by show 1000 + 300 * n + 1 + 0 ≤ 603072; omega, by show 10000 + 5000 * n + 6 + 0 ≤ 7219305; omega⟩ (Nat.le_of_ble_eq_true rfl) dL_law_1718) rfl rfl rfl rfl ?_
    refine JX_iload (i := 6) (q := 1) (pc1 := 1723) dL_law_1721 rfl rfl ?_
    refine JX_icmp_eq (tgt := 1728) (pc1 := 1726) dL_law_1723 (by decide) (fun qq => ?_) rfl (fun qq => absurd (th_eq hc9 (Nat.zero_le _)) qq)
    refine JX_iload (i := 6) (q := 1) (pc1 := 1730) dL_law_1728 rfl rfl ?_
    refine JX_if_ne (tgt := 1745) (pc1 := 1733) dL_law_1730 (by decide) (fun qq => ?_) rfl (fun qq => ?_)
    · skip
      refine JX_goto (tgt := 1748) dL_law_1745 (by decide) ?_
      exact JX_sub [2, 3, 4, 5, 6, 7] rfl (JX_widen (by omega) (by omega) (hN _ _ _ _ _ _ _ _ _ _ _ _ _ hS1 hr9 hZ9 hI1))
    · skip
      have h0 := th_0 qq (Nat.zero_le _)
      obtain ⟨r9, rfl, hr0⟩ := hv h0
      have e9 : r9 = b9 := Int32.toInt_inj.mp (hr0.trans (hb9 h0).symm)
      rw [e9]
      refine JX_aload_n (i := 3) (q := 4) (pc1 := 1734) dL_law_1733 rfl rfl rfl ?_
      refine JX_iconst (v := 0) (pc1 := 1735) dL_law_1734 (by decide) rfl ?_
      refine JX_lald (pc1 := 1736) dL_law_1735 rfl ?_
      refine JX_iload (i := 7) (q := 0) (pc1 := 1738) dL_law_1736 rfl rfl ?_
      refine JX_i2l (v := (b9).toInt64) (pc1 := 1739) dL_law_1738 rfl rfl ?_
      refine JX_lcmp (v := 0) (pc1 := 1740) dL_law_1739 (lg_self _) rfl ?_
      refine JX_if_eq (tgt := 1745) (pc1 := 1743) dL_law_1740 (by decide) (fun qq => ?_) rfl (fun qq => absurd (rfl) qq)
      refine JX_goto (tgt := 1748) dL_law_1745 (by decide) ?_
      exact JX_sub [2, 3, 4, 5, 6, 7] rfl (JX_widen (by omega) (by omega) (hN _ _ _ _ _ _ _ _ _ _ _ _ _ hS1 hr9 hZ9 hI1))
end LwC
