/-! the reference's world: one object, five arrays -/
def gE_R : List (Nat × Nat) := [(0, 0), (1, 0), (2, 0), (4, 0), (5, 0), (12, 0)]
def gkd_R : Nat → gKd := fun f => match f with
  | 0 => .inl (11, 14, [1, 2, 4, 5, 12])
  | 1 => .inr (.inl (0, 1616))
  | 2 => .inr (.inl (0, 1616))
  | 4 => .inr (.inl (0, 25))
  | 5 => .inr (.inl (1, 80))
  | _ => .inr (.inl (1, 700))
def grh_R : gRh := fun _ _ _ k => some (k, 0)
theorem eR0 : ((0 : Nat), (0 : Nat)) ∈ gE_R := by decide
theorem eR1 : ((1 : Nat), (0 : Nat)) ∈ gE_R := by decide
theorem eR2 : ((2 : Nat), (0 : Nat)) ∈ gE_R := by decide
theorem eR4 : ((4 : Nat), (0 : Nat)) ∈ gE_R := by decide
theorem eR5 : ((5 : Nat), (0 : Nat)) ∈ gE_R := by decide
theorem eR12 : ((12 : Nat), (0 : Nat)) ∈ gE_R := by decide
theorem gZn {v : Int32} (h : v = 0 ∨ v = 1) : narrow .boolean (.int v) = .int v := by rcases h with rfl | rfl <;> rfl
theorem gZf {v : Int32} (h : v = 0 ∨ v = 1) : fits .boolean (.int v) = true := by rcases h with rfl | rfl <;> rfl
abbrev JR (p : Program) (l : Launch) (e : Env) (R : Room) (s : State) (m : MethodId) (args : Array Value) (below : List Frame) (meth : Method) (c : Code) (cc : ByteArray) (nL : Nat) (own : String) (D : va_G) (tc : Nat → ClassId) (sa : Nat → Nat) (ad : Nat → Nat → Nat) (sz : Nat) (o : Option Value) (μ' : gM) (μ : gM) (pc : Nat) (lv : List (Nat × Value)) (st : List Value) : Prop := J p l e R s m args below meth c cc nL own D gE_R gkd_R tc ad grh_R sa (gA gE_R ad sz) s.heap 0 0 (MQ below (gQ D gE_R gkd_R tc ad grh_R sz o μ') args s 0 0 (gA gE_R ad sz)) μ pc lv st
theorem flX7_30 : Cond.fieldLink RX7 30 "QuorumLogModel" "thrown" "I" ∈ BIG := bigT7 (i := 55) rfl rfl
theorem wlX7_34 : Cond.methodLink RX7 34 yX7_isBetween ∈ BIG := bigT7 (i := 109) rfl rfl
theorem stX7_isBetween : Cond.static yX7_isBetween ∈ BIG := bigT7 (i := 110) rfl rfl
theorem iniX7 : Cond.initialized RX7 ∈ BIG := bigT1 (i := 12) rfl rfl
theorem cdX7_isBetween : Cond.code yX7_isBetween cX7_isBetween 3 (some .boolean) ∈ BIG := bigT7 (i := 111) rfl rfl
theorem wcX7_isBetween : wCs yX7_isBetween cX7_isBetween 3 (some .boolean) 3 := ⟨⟨stX7_isBetween, iniX7, cdX7_isBetween⟩, by decide +kernel⟩
theorem flX7_9 : Cond.fieldLink RX7 9 "QuorumLogModel" "now" "[I" ∈ BIG := bigT7 (i := 56) rfl rfl
theorem wlX7_38 : Cond.methodLink RX7 38 yX7_of ∈ BIG := bigT7 (i := 50) rfl rfl
theorem imX7_of : Cond.instanceMethod yX7_of ∈ BIG := bigT7 (i := 52) rfl rfl
theorem seX7_of : Cond.selects yX7_of.cls yX7_of yX7_of ∈ BIG := bigS3 (i := 3) (q := (yX7_of, 14)) rfl
theorem cdX7_of : Cond.code yX7_of cX7_of 3 (some .int) ∈ BIG := bigT7 (i := 53) rfl rfl
theorem wcX7_of : wCv yX7_of cX7_of 3 (some .int) 2 := ⟨⟨imX7_of, seX7_of, iniX7, cdX7_of⟩, by decide +kernel⟩
theorem ctX7_42 : Cond.constant RX7 42 ((-1640531527)) ∈ BIG := bigT7 (i := 54) rfl rfl
theorem wlX7_43 : Cond.methodLink RX7 43 yX7_set ∈ BIG := bigT7 (i := 42) rfl rfl
theorem imX7_set : Cond.instanceMethod yX7_set ∈ BIG := bigT7 (i := 44) rfl rfl
theorem seX7_set : Cond.selects yX7_set.cls yX7_set yX7_set ∈ BIG := bigS3 (i := 1) (q := (yX7_set, 14)) rfl
theorem cdX7_set : Cond.code yX7_set cX7_set 4 (none) ∈ BIG := bigT7 (i := 45) rfl rfl
theorem wcX7_set : wCv yX7_set cX7_set 4 (none) 3 := ⟨⟨imX7_set, seX7_set, iniX7, cdX7_set⟩, by decide +kernel⟩
theorem wlX7_47 : Cond.methodLink RX7 47 yX7_resetTimer ∈ BIG := bigT7 (i := 46) rfl rfl
theorem imX7_resetTimer : Cond.instanceMethod yX7_resetTimer ∈ BIG := bigT7 (i := 48) rfl rfl
theorem seX7_resetTimer : Cond.selects yX7_resetTimer.cls yX7_resetTimer yX7_resetTimer ∈ BIG := bigS3 (i := 2) (q := (yX7_resetTimer, 14)) rfl
theorem cdX7_resetTimer : Cond.code yX7_resetTimer cX7_resetTimer 3 (none) ∈ BIG := bigT7 (i := 49) rfl rfl
theorem wcX7_resetTimer : wCv yX7_resetTimer cX7_resetTimer 3 (none) 1 := ⟨⟨imX7_resetTimer, seX7_resetTimer, iniX7, cdX7_resetTimer⟩, by decide +kernel⟩
theorem wlX7_51 : Cond.methodLink RX7 51 yX7_isGroup ∈ BIG := bigT7 (i := 106) rfl rfl
theorem stX7_isGroup : Cond.static yX7_isGroup ∈ BIG := bigT7 (i := 107) rfl rfl
theorem cdX7_isGroup : Cond.code yX7_isGroup cX7_isGroup 1 (some .boolean) ∈ BIG := bigT7 (i := 108) rfl rfl
theorem wcX7_isGroup : wCs yX7_isGroup cX7_isGroup 1 (some .boolean) 1 := ⟨⟨stX7_isGroup, iniX7, cdX7_isGroup⟩, by decide +kernel⟩
theorem wlX7_55 : Cond.methodLink RX7 55 yX7_fails ∈ BIG := bigT7 (i := 112) rfl rfl
theorem imX7_fails : Cond.instanceMethod yX7_fails ∈ BIG := bigT7 (i := 114) rfl rfl
theorem seX7_fails : Cond.selects yX7_fails.cls yX7_fails yX7_fails ∈ BIG := bigS3 (i := 4) (q := (yX7_fails, 14)) rfl
theorem cdX7_fails : Cond.code yX7_fails cX7_fails 3 (some .boolean) ∈ BIG := bigT7 (i := 115) rfl rfl
theorem wcX7_fails : wCv yX7_fails cX7_fails 3 (some .boolean) 2 := ⟨⟨imX7_fails, seX7_fails, iniX7, cdX7_fails⟩, by decide +kernel⟩
theorem wlX7_26 : Cond.methodLink RX7 26 yX7_begin ∈ BIG := bigT7 (i := 38) rfl rfl
theorem imX7_begin : Cond.instanceMethod yX7_begin ∈ BIG := bigT7 (i := 40) rfl rfl
theorem seX7_begin : Cond.selects yX7_begin.cls yX7_begin yX7_begin ∈ BIG := bigS3 (i := 0) (q := (yX7_begin, 14)) rfl
theorem cdX7_begin : Cond.code yX7_begin cX7_begin 4 (none) ∈ BIG := bigT7 (i := 41) rfl rfl
theorem wcX7_begin : wCv yX7_begin cX7_begin 4 (none) 2 := ⟨⟨imX7_begin, seX7_begin, iniX7, cdX7_begin⟩, by decide +kernel⟩
theorem wlX7_59 : Cond.methodLink RX7 59 yX7_countBits ∈ BIG := bigT7 (i := 116) rfl rfl
theorem stX7_countBits : Cond.static yX7_countBits ∈ BIG := bigT7 (i := 117) rfl rfl
theorem cdX7_countBits : Cond.code yX7_countBits cX7_countBits 3 (some .int) ∈ BIG := bigT7 (i := 118) rfl rfl
theorem wcX7_countBits : wCs yX7_countBits cX7_countBits 3 (some .int) 1 := ⟨⟨stX7_countBits, iniX7, cdX7_countBits⟩, by decide +kernel⟩
theorem wlX7_63 : Cond.methodLink RX7 63 yX7_entryOf ∈ BIG := bigT7 (i := 159) rfl rfl
theorem imX7_entryOf : Cond.instanceMethod yX7_entryOf ∈ BIG := bigT7 (i := 161) rfl rfl
theorem seX7_entryOf : Cond.selects yX7_entryOf.cls yX7_entryOf yX7_entryOf ∈ BIG := bigS3 (i := 14) (q := (yX7_entryOf, 14)) rfl
theorem cdX7_entryOf : Cond.code yX7_entryOf cX7_entryOf 4 (some .int) ∈ BIG := bigT7 (i := 162) rfl rfl
theorem wcX7_entryOf : wCv yX7_entryOf cX7_entryOf 4 (some .int) 3 := ⟨⟨imX7_entryOf, seX7_entryOf, iniX7, cdX7_entryOf⟩, by decide +kernel⟩
theorem wlX7_67 : Cond.methodLink RX7 67 yX7_last ∈ BIG := bigT7 (i := 151) rfl rfl
theorem imX7_last : Cond.instanceMethod yX7_last ∈ BIG := bigT7 (i := 153) rfl rfl
theorem seX7_last : Cond.selects yX7_last.cls yX7_last yX7_last ∈ BIG := bigS3 (i := 12) (q := (yX7_last, 14)) rfl
theorem cdX7_last : Cond.code yX7_last cX7_last 2 (some .int) ∈ BIG := bigT7 (i := 154) rfl rfl
theorem wcX7_last : wCv yX7_last cX7_last 2 (some .int) 1 := ⟨⟨imX7_last, seX7_last, iniX7, cdX7_last⟩, by decide +kernel⟩
theorem wlX7_70 : Cond.methodLink RX7 70 yX7_configurationAt ∈ BIG := bigT7 (i := 186) rfl rfl
theorem imX7_configurationAt : Cond.instanceMethod yX7_configurationAt ∈ BIG := bigT7 (i := 188) rfl rfl
theorem seX7_configurationAt : Cond.selects yX7_configurationAt.cls yX7_configurationAt yX7_configurationAt ∈ BIG := bigS4 (i := 4) (q := (yX7_configurationAt, 14)) rfl
theorem cdX7_configurationAt : Cond.code yX7_configurationAt cX7_configurationAt 6 (some .int) ∈ BIG := bigT7 (i := 189) rfl rfl
theorem wcX7_configurationAt : wCv yX7_configurationAt cX7_configurationAt 6 (some .int) 2 := ⟨⟨imX7_configurationAt, seX7_configurationAt, iniX7, cdX7_configurationAt⟩, by decide +kernel⟩
theorem wlX7_73 : Cond.methodLink RX7 73 yX7_configuration ∈ BIG := bigT7 (i := 182) rfl rfl
theorem imX7_configuration : Cond.instanceMethod yX7_configuration ∈ BIG := bigT7 (i := 184) rfl rfl
theorem seX7_configuration : Cond.selects yX7_configuration.cls yX7_configuration yX7_configuration ∈ BIG := bigS4 (i := 3) (q := (yX7_configuration, 14)) rfl
theorem cdX7_configuration : Cond.code yX7_configuration cX7_configuration 2 (some .int) ∈ BIG := bigT7 (i := 185) rfl rfl
theorem wcX7_configuration : wCv yX7_configuration cX7_configuration 2 (some .int) 1 := ⟨⟨imX7_configuration, seX7_configuration, iniX7, cdX7_configuration⟩, by decide +kernel⟩
theorem wlX7_76 : Cond.methodLink RX7 76 yX7_oldOf ∈ BIG := bigT7 (i := 190) rfl rfl
theorem imX7_oldOf : Cond.instanceMethod yX7_oldOf ∈ BIG := bigT7 (i := 192) rfl rfl
theorem seX7_oldOf : Cond.selects yX7_oldOf.cls yX7_oldOf yX7_oldOf ∈ BIG := bigS4 (i := 5) (q := (yX7_oldOf, 14)) rfl
theorem cdX7_oldOf : Cond.code yX7_oldOf cX7_oldOf 3 (some .int) ∈ BIG := bigT7 (i := 193) rfl rfl
theorem wcX7_oldOf : wCv yX7_oldOf cX7_oldOf 3 (some .int) 2 := ⟨⟨imX7_oldOf, seX7_oldOf, iniX7, cdX7_oldOf⟩, by decide +kernel⟩
theorem wlX7_79 : Cond.methodLink RX7 79 yX7_newOf ∈ BIG := bigT7 (i := 197) rfl rfl
theorem imX7_newOf : Cond.instanceMethod yX7_newOf ∈ BIG := bigT7 (i := 199) rfl rfl
theorem seX7_newOf : Cond.selects yX7_newOf.cls yX7_newOf yX7_newOf ∈ BIG := bigS4 (i := 6) (q := (yX7_newOf, 14)) rfl
theorem cdX7_newOf : Cond.code yX7_newOf cX7_newOf 3 (some .int) ∈ BIG := bigT7 (i := 200) rfl rfl
theorem wcX7_newOf : wCv yX7_newOf cX7_newOf 3 (some .int) 2 := ⟨⟨imX7_newOf, seX7_newOf, iniX7, cdX7_newOf⟩, by decide +kernel⟩
theorem wlX7_82 : Cond.methodLink RX7 82 yX7_isMost ∈ BIG := bigT7 (i := 194) rfl rfl
theorem stX7_isMost : Cond.static yX7_isMost ∈ BIG := bigT7 (i := 195) rfl rfl
theorem cdX7_isMost : Cond.code yX7_isMost cX7_isMost 2 (some .boolean) ∈ BIG := bigT7 (i := 196) rfl rfl
theorem wcX7_isMost : wCs yX7_isMost cX7_isMost 2 (some .boolean) 2 := ⟨⟨stX7_isMost, iniX7, cdX7_isMost⟩, by decide +kernel⟩
theorem wlX7_86 : Cond.methodLink RX7 86 yX7_tally ∈ BIG := bigT7 (i := 143) rfl rfl
theorem imX7_tally : Cond.instanceMethod yX7_tally ∈ BIG := bigT7 (i := 145) rfl rfl
theorem seX7_tally : Cond.selects yX7_tally.cls yX7_tally yX7_tally ∈ BIG := bigS3 (i := 10) (q := (yX7_tally, 14)) rfl
theorem cdX7_tally : Cond.code yX7_tally cX7_tally 3 (none) ∈ BIG := bigT7 (i := 146) rfl rfl
theorem wcX7_tally : wCv yX7_tally cX7_tally 3 (none) 2 := ⟨⟨imX7_tally, seX7_tally, iniX7, cdX7_tally⟩, by decide +kernel⟩
theorem wlX7_89 : Cond.methodLink RX7 89 yX7_has ∈ BIG := bigT7 (i := 167) rfl rfl
theorem stX7_has : Cond.static yX7_has ∈ BIG := bigT7 (i := 168) rfl rfl
theorem cdX7_has : Cond.code yX7_has cX7_has 2 (some .boolean) ∈ BIG := bigT7 (i := 169) rfl rfl
theorem wcX7_has : wCs yX7_has cX7_has 2 (some .boolean) 2 := ⟨⟨stX7_has, iniX7, cdX7_has⟩, by decide +kernel⟩
theorem wlX7_92 : Cond.methodLink RX7 92 yX7_put ∈ BIG := bigT7 (i := 170) rfl rfl
theorem imX7_put : Cond.instanceMethod yX7_put ∈ BIG := bigT7 (i := 172) rfl rfl
theorem seX7_put : Cond.selects yX7_put.cls yX7_put yX7_put ∈ BIG := bigS4 (i := 0) (q := (yX7_put, 14)) rfl
theorem cdX7_put : Cond.code yX7_put cX7_put 4 (none) ∈ BIG := bigT7 (i := 173) rfl rfl
theorem wcX7_put : wCv yX7_put cX7_put 4 (none) 3 := ⟨⟨imX7_put, seX7_put, iniX7, cdX7_put⟩, by decide +kernel⟩
theorem wlX7_95 : Cond.methodLink RX7 95 yX7_send ∈ BIG := bigT7 (i := 163) rfl rfl
theorem imX7_send : Cond.instanceMethod yX7_send ∈ BIG := bigT7 (i := 165) rfl rfl
theorem seX7_send : Cond.selects yX7_send.cls yX7_send yX7_send ∈ BIG := bigS3 (i := 15) (q := (yX7_send, 14)) rfl
theorem cdX7_send : Cond.code yX7_send cX7_send 8 (some .int) ∈ BIG := bigT7 (i := 166) rfl rfl
theorem wcX7_send : wCv yX7_send cX7_send 8 (some .int) 5 := ⟨⟨imX7_send, seX7_send, iniX7, cdX7_send⟩, by decide +kernel⟩
theorem wlX7_99 : Cond.methodLink RX7 99 yX7_termAt ∈ BIG := bigT7 (i := 155) rfl rfl
theorem imX7_termAt : Cond.instanceMethod yX7_termAt ∈ BIG := bigT7 (i := 157) rfl rfl
theorem seX7_termAt : Cond.selects yX7_termAt.cls yX7_termAt yX7_termAt ∈ BIG := bigS3 (i := 13) (q := (yX7_termAt, 14)) rfl
theorem cdX7_termAt : Cond.code yX7_termAt cX7_termAt 3 (some .int) ∈ BIG := bigT7 (i := 158) rfl rfl
theorem wcX7_termAt : wCv yX7_termAt cX7_termAt 3 (some .int) 2 := ⟨⟨imX7_termAt, seX7_termAt, iniX7, cdX7_termAt⟩, by decide +kernel⟩
theorem wlX7_105 : Cond.methodLink RX7 105 yX7_sendEntries ∈ BIG := bigT7 (i := 237) rfl rfl
theorem imX7_sendEntries : Cond.instanceMethod yX7_sendEntries ∈ BIG := bigT7 (i := 239) rfl rfl
theorem seX7_sendEntries : Cond.selects yX7_sendEntries.cls yX7_sendEntries yX7_sendEntries ∈ BIG := bigS5 (i := 0) (q := (yX7_sendEntries, 14)) rfl
theorem cdX7_sendEntries : Cond.code yX7_sendEntries cX7_sendEntries 7 (none) ∈ BIG := bigT8 (i := 0) rfl rfl
theorem wcX7_sendEntries : wCv yX7_sendEntries cX7_sendEntries 7 (none) 2 := ⟨⟨imX7_sendEntries, seX7_sendEntries, iniX7, cdX7_sendEntries⟩, by decide +kernel⟩
theorem wlX7_102 : Cond.methodLink RX7 102 yX7_sendSnapshot ∈ BIG := bigT7 (i := 233) rfl rfl
theorem imX7_sendSnapshot : Cond.instanceMethod yX7_sendSnapshot ∈ BIG := bigT7 (i := 235) rfl rfl
theorem seX7_sendSnapshot : Cond.selects yX7_sendSnapshot.cls yX7_sendSnapshot yX7_sendSnapshot ∈ BIG := bigS4 (i := 15) (q := (yX7_sendSnapshot, 14)) rfl
theorem cdX7_sendSnapshot : Cond.code yX7_sendSnapshot cX7_sendSnapshot 4 (none) ∈ BIG := bigT7 (i := 236) rfl rfl
theorem wcX7_sendSnapshot : wCv yX7_sendSnapshot cX7_sendSnapshot 4 (none) 2 := ⟨⟨imX7_sendSnapshot, seX7_sendSnapshot, iniX7, cdX7_sendSnapshot⟩, by decide +kernel⟩
theorem wlX7_108 : Cond.methodLink RX7 108 yX7_members ∈ BIG := bigT7 (i := 225) rfl rfl
theorem imX7_members : Cond.instanceMethod yX7_members ∈ BIG := bigT7 (i := 227) rfl rfl
theorem seX7_members : Cond.selects yX7_members.cls yX7_members yX7_members ∈ BIG := bigS4 (i := 13) (q := (yX7_members, 14)) rfl
theorem cdX7_members : Cond.code yX7_members cX7_members 3 (some .int) ∈ BIG := bigT7 (i := 228) rfl rfl
theorem wcX7_members : wCv yX7_members cX7_members 3 (some .int) 1 := ⟨⟨imX7_members, seX7_members, iniX7, cdX7_members⟩, by decide +kernel⟩
theorem wlX7_111 : Cond.methodLink RX7 111 yX7_sendTo ∈ BIG := bigT7 (i := 229) rfl rfl
theorem imX7_sendTo : Cond.instanceMethod yX7_sendTo ∈ BIG := bigT7 (i := 231) rfl rfl
theorem seX7_sendTo : Cond.selects yX7_sendTo.cls yX7_sendTo yX7_sendTo ∈ BIG := bigS4 (i := 14) (q := (yX7_sendTo, 14)) rfl
theorem cdX7_sendTo : Cond.code yX7_sendTo cX7_sendTo 3 (none) ∈ BIG := bigT7 (i := 232) rfl rfl
theorem wcX7_sendTo : wCv yX7_sendTo cX7_sendTo 3 (none) 2 := ⟨⟨imX7_sendTo, seX7_sendTo, iniX7, cdX7_sendTo⟩, by decide +kernel⟩
theorem wlX7_120 : Cond.methodLink RX7 120 yX7_add ∈ BIG := bigT7 (i := 209) rfl rfl
theorem imX7_add : Cond.instanceMethod yX7_add ∈ BIG := bigT7 (i := 211) rfl rfl
theorem seX7_add : Cond.selects yX7_add.cls yX7_add yX7_add ∈ BIG := bigS4 (i := 9) (q := (yX7_add, 14)) rfl
theorem cdX7_add : Cond.code yX7_add cX7_add 6 (none) ∈ BIG := bigT7 (i := 212) rfl rfl
theorem wcX7_add : wCv yX7_add cX7_add 6 (none) 4 := ⟨⟨imX7_add, seX7_add, iniX7, cdX7_add⟩, by decide +kernel⟩
theorem wlX7_114 : Cond.methodLink RX7 114 yX7_matching ∈ BIG := bigT7 (i := 217) rfl rfl
theorem imX7_matching : Cond.instanceMethod yX7_matching ∈ BIG := bigT7 (i := 219) rfl rfl
theorem seX7_matching : Cond.selects yX7_matching.cls yX7_matching yX7_matching ∈ BIG := bigS4 (i := 11) (q := (yX7_matching, 14)) rfl
theorem cdX7_matching : Cond.code yX7_matching cX7_matching 5 (some .int) ∈ BIG := bigT7 (i := 220) rfl rfl
theorem wcX7_matching : wCv yX7_matching cX7_matching 5 (some .int) 2 := ⟨⟨imX7_matching, seX7_matching, iniX7, cdX7_matching⟩, by decide +kernel⟩
theorem wlX7_117 : Cond.methodLink RX7 117 yX7_isQuorum ∈ BIG := bigT7 (i := 178) rfl rfl
theorem imX7_isQuorum : Cond.instanceMethod yX7_isQuorum ∈ BIG := bigT7 (i := 180) rfl rfl
theorem seX7_isQuorum : Cond.selects yX7_isQuorum.cls yX7_isQuorum yX7_isQuorum ∈ BIG := bigS4 (i := 2) (q := (yX7_isQuorum, 14)) rfl
theorem cdX7_isQuorum : Cond.code yX7_isQuorum cX7_isQuorum 4 (some .boolean) ∈ BIG := bigT7 (i := 181) rfl rfl
theorem wcX7_isQuorum : wCv yX7_isQuorum cX7_isQuorum 4 (some .boolean) 2 := ⟨⟨imX7_isQuorum, seX7_isQuorum, iniX7, cdX7_isQuorum⟩, by decide +kernel⟩
theorem wlX7_124 : Cond.methodLink RX7 124 yX7_commit ∈ BIG := bigT7 (i := 213) rfl rfl
theorem imX7_commit : Cond.instanceMethod yX7_commit ∈ BIG := bigT7 (i := 215) rfl rfl
theorem seX7_commit : Cond.selects yX7_commit.cls yX7_commit yX7_commit ∈ BIG := bigS4 (i := 10) (q := (yX7_commit, 14)) rfl
theorem cdX7_commit : Cond.code yX7_commit cX7_commit 4 (none) ∈ BIG := bigT7 (i := 216) rfl rfl
theorem wcX7_commit : wCv yX7_commit cX7_commit 4 (none) 1 := ⟨⟨imX7_commit, seX7_commit, iniX7, cdX7_commit⟩, by decide +kernel⟩
theorem wlX7_130 : Cond.methodLink RX7 130 yX7_sendToAll ∈ BIG := bigT7 (i := 221) rfl rfl
theorem imX7_sendToAll : Cond.instanceMethod yX7_sendToAll ∈ BIG := bigT7 (i := 223) rfl rfl
theorem seX7_sendToAll : Cond.selects yX7_sendToAll.cls yX7_sendToAll yX7_sendToAll ∈ BIG := bigS4 (i := 12) (q := (yX7_sendToAll, 14)) rfl
theorem cdX7_sendToAll : Cond.code yX7_sendToAll cX7_sendToAll 4 (none) ∈ BIG := bigT7 (i := 224) rfl rfl
theorem wcX7_sendToAll : wCv yX7_sendToAll cX7_sendToAll 4 (none) 1 := ⟨⟨imX7_sendToAll, seX7_sendToAll, iniX7, cdX7_sendToAll⟩, by decide +kernel⟩
theorem wlX7_127 : Cond.methodLink RX7 127 yX7_append ∈ BIG := bigT7 (i := 205) rfl rfl
theorem imX7_append : Cond.instanceMethod yX7_append ∈ BIG := bigT7 (i := 207) rfl rfl
theorem seX7_append : Cond.selects yX7_append.cls yX7_append yX7_append ∈ BIG := bigS4 (i := 8) (q := (yX7_append, 14)) rfl
theorem cdX7_append : Cond.code yX7_append cX7_append 4 (none) ∈ BIG := bigT7 (i := 208) rfl rfl
theorem wcX7_append : wCv yX7_append cX7_append 4 (none) 3 := ⟨⟨imX7_append, seX7_append, iniX7, cdX7_append⟩, by decide +kernel⟩
theorem wlX7_133 : Cond.methodLink RX7 133 yX7_win ∈ BIG := bigT7 (i := 201) rfl rfl
theorem imX7_win : Cond.instanceMethod yX7_win ∈ BIG := bigT7 (i := 203) rfl rfl
theorem seX7_win : Cond.selects yX7_win.cls yX7_win yX7_win ∈ BIG := bigS4 (i := 7) (q := (yX7_win, 14)) rfl
theorem cdX7_win : Cond.code yX7_win cX7_win 3 (none) ∈ BIG := bigT7 (i := 204) rfl rfl
theorem wcX7_win : wCv yX7_win cX7_win 3 (none) 1 := ⟨⟨imX7_win, seX7_win, iniX7, cdX7_win⟩, by decide +kernel⟩
theorem flX7_16 : Cond.fieldLink RX7 16 "QuorumLogModel" "got" "[I" ∈ BIG := bigT7 (i := 59) rfl rfl
theorem wlX7_136 : Cond.methodLink RX7 136 yX7_answer ∈ BIG := bigT8 (i := 9) rfl rfl
theorem imX7_answer : Cond.instanceMethod yX7_answer ∈ BIG := bigT8 (i := 11) rfl rfl
theorem seX7_answer : Cond.selects yX7_answer.cls yX7_answer yX7_answer ∈ BIG := bigS5 (i := 3) (q := (yX7_answer, 14)) rfl
theorem cdX7_answer : Cond.code yX7_answer cX7_answer 5 (none) ∈ BIG := bigT8 (i := 12) rfl rfl
theorem wcX7_answer : wCv yX7_answer cX7_answer 5 (none) 3 := ⟨⟨imX7_answer, seX7_answer, iniX7, cdX7_answer⟩, by decide +kernel⟩
theorem wlX7_139 : Cond.methodLink RX7 139 yX7_take ∈ BIG := bigT8 (i := 17) rfl rfl
theorem imX7_take : Cond.instanceMethod yX7_take ∈ BIG := bigT8 (i := 19) rfl rfl
theorem seX7_take : Cond.selects yX7_take.cls yX7_take yX7_take ∈ BIG := bigS5 (i := 5) (q := (yX7_take, 14)) rfl
theorem cdX7_take : Cond.code yX7_take cX7_take 5 (some .int) ∈ BIG := bigT8 (i := 20) rfl rfl
theorem wcX7_take : wCv yX7_take cX7_take 5 (some .int) 1 := ⟨⟨imX7_take, seX7_take, iniX7, cdX7_take⟩, by decide +kernel⟩
theorem wlX7_142 : Cond.methodLink RX7 142 yX7_dropFirst ∈ BIG := bigT8 (i := 25) rfl rfl
theorem imX7_dropFirst : Cond.instanceMethod yX7_dropFirst ∈ BIG := bigT8 (i := 27) rfl rfl
theorem seX7_dropFirst : Cond.selects yX7_dropFirst.cls yX7_dropFirst yX7_dropFirst ∈ BIG := bigS5 (i := 7) (q := (yX7_dropFirst, 14)) rfl
theorem cdX7_dropFirst : Cond.code yX7_dropFirst cX7_dropFirst 5 (none) ∈ BIG := bigT8 (i := 28) rfl rfl
theorem wcX7_dropFirst : wCv yX7_dropFirst cX7_dropFirst 5 (none) 2 := ⟨⟨imX7_dropFirst, seX7_dropFirst, iniX7, cdX7_dropFirst⟩, by decide +kernel⟩
theorem wlX7_148 : Cond.methodLink RX7 148 yX7_receiveSnapshot ∈ BIG := bigT8 (i := 21) rfl rfl
theorem imX7_receiveSnapshot : Cond.instanceMethod yX7_receiveSnapshot ∈ BIG := bigT8 (i := 23) rfl rfl
theorem seX7_receiveSnapshot : Cond.selects yX7_receiveSnapshot.cls yX7_receiveSnapshot yX7_receiveSnapshot ∈ BIG := bigS5 (i := 6) (q := (yX7_receiveSnapshot, 14)) rfl
theorem cdX7_receiveSnapshot : Cond.code yX7_receiveSnapshot cX7_receiveSnapshot 4 (none) ∈ BIG := bigT8 (i := 24) rfl rfl
theorem wcX7_receiveSnapshot : wCv yX7_receiveSnapshot cX7_receiveSnapshot 4 (none) 1 := ⟨⟨imX7_receiveSnapshot, seX7_receiveSnapshot, iniX7, cdX7_receiveSnapshot⟩, by decide +kernel⟩
theorem wlX7_145 : Cond.methodLink RX7 145 yX7_receiveAppend ∈ BIG := bigT8 (i := 13) rfl rfl
theorem imX7_receiveAppend : Cond.instanceMethod yX7_receiveAppend ∈ BIG := bigT8 (i := 15) rfl rfl
theorem seX7_receiveAppend : Cond.selects yX7_receiveAppend.cls yX7_receiveAppend yX7_receiveAppend ∈ BIG := bigS5 (i := 4) (q := (yX7_receiveAppend, 14)) rfl
theorem cdX7_receiveAppend : Cond.code yX7_receiveAppend cX7_receiveAppend 6 (none) ∈ BIG := bigT8 (i := 16) rfl rfl
theorem wcX7_receiveAppend : wCv yX7_receiveAppend cX7_receiveAppend 6 (none) 1 := ⟨⟨imX7_receiveAppend, seX7_receiveAppend, iniX7, cdX7_receiveAppend⟩, by decide +kernel⟩
theorem wlX7_151 : Cond.methodLink RX7 151 yX7_receiveRequest ∈ BIG := bigT7 (i := 147) rfl rfl
theorem imX7_receiveRequest : Cond.instanceMethod yX7_receiveRequest ∈ BIG := bigT7 (i := 149) rfl rfl
theorem seX7_receiveRequest : Cond.selects yX7_receiveRequest.cls yX7_receiveRequest yX7_receiveRequest ∈ BIG := bigS3 (i := 11) (q := (yX7_receiveRequest, 14)) rfl
theorem cdX7_receiveRequest : Cond.code yX7_receiveRequest cX7_receiveRequest 7 (none) ∈ BIG := bigT7 (i := 150) rfl rfl
theorem wcX7_receiveRequest : wCv yX7_receiveRequest cX7_receiveRequest 7 (none) 1 := ⟨⟨imX7_receiveRequest, seX7_receiveRequest, iniX7, cdX7_receiveRequest⟩, by decide +kernel⟩
theorem wlX7_154 : Cond.methodLink RX7 154 yX7_receiveReply ∈ BIG := bigT7 (i := 174) rfl rfl
theorem imX7_receiveReply : Cond.instanceMethod yX7_receiveReply ∈ BIG := bigT7 (i := 176) rfl rfl
theorem seX7_receiveReply : Cond.selects yX7_receiveReply.cls yX7_receiveReply yX7_receiveReply ∈ BIG := bigS4 (i := 1) (q := (yX7_receiveReply, 14)) rfl
theorem cdX7_receiveReply : Cond.code yX7_receiveReply cX7_receiveReply 2 (none) ∈ BIG := bigT7 (i := 177) rfl rfl
theorem wcX7_receiveReply : wCv yX7_receiveReply cX7_receiveReply 2 (none) 1 := ⟨⟨imX7_receiveReply, seX7_receiveReply, iniX7, cdX7_receiveReply⟩, by decide +kernel⟩
theorem wlX7_160 : Cond.methodLink RX7 160 yX7_receiveFromLeader ∈ BIG := bigT8 (i := 5) rfl rfl
theorem imX7_receiveFromLeader : Cond.instanceMethod yX7_receiveFromLeader ∈ BIG := bigT8 (i := 7) rfl rfl
theorem seX7_receiveFromLeader : Cond.selects yX7_receiveFromLeader.cls yX7_receiveFromLeader yX7_receiveFromLeader ∈ BIG := bigS5 (i := 2) (q := (yX7_receiveFromLeader, 14)) rfl
theorem cdX7_receiveFromLeader : Cond.code yX7_receiveFromLeader cX7_receiveFromLeader 2 (none) ∈ BIG := bigT8 (i := 8) rfl rfl
theorem wcX7_receiveFromLeader : wCv yX7_receiveFromLeader cX7_receiveFromLeader 2 (none) 1 := ⟨⟨imX7_receiveFromLeader, seX7_receiveFromLeader, iniX7, cdX7_receiveFromLeader⟩, by decide +kernel⟩
theorem wlX7_157 : Cond.methodLink RX7 157 yX7_receiveAnswer ∈ BIG := bigT8 (i := 1) rfl rfl
theorem imX7_receiveAnswer : Cond.instanceMethod yX7_receiveAnswer ∈ BIG := bigT8 (i := 3) rfl rfl
theorem seX7_receiveAnswer : Cond.selects yX7_receiveAnswer.cls yX7_receiveAnswer yX7_receiveAnswer ∈ BIG := bigS5 (i := 1) (q := (yX7_receiveAnswer, 14)) rfl
theorem cdX7_receiveAnswer : Cond.code yX7_receiveAnswer cX7_receiveAnswer 4 (none) ∈ BIG := bigT8 (i := 4) rfl rfl
theorem wcX7_receiveAnswer : wCv yX7_receiveAnswer cX7_receiveAnswer 4 (none) 1 := ⟨⟨imX7_receiveAnswer, seX7_receiveAnswer, iniX7, cdX7_receiveAnswer⟩, by decide +kernel⟩
theorem wlX7_163 : Cond.methodLink RX7 163 yX7_part ∈ BIG := bigT7 (i := 131) rfl rfl
theorem imX7_part : Cond.instanceMethod yX7_part ∈ BIG := bigT7 (i := 133) rfl rfl
theorem seX7_part : Cond.selects yX7_part.cls yX7_part yX7_part ∈ BIG := bigS3 (i := 7) (q := (yX7_part, 14)) rfl
theorem cdX7_part : Cond.code yX7_part cX7_part 3 (some .int) ∈ BIG := bigT7 (i := 134) rfl rfl
theorem wcX7_part : wCv yX7_part cX7_part 3 (some .int) 2 := ⟨⟨imX7_part, seX7_part, iniX7, cdX7_part⟩, by decide +kernel⟩
theorem wlX7_166 : Cond.methodLink RX7 166 yX7_stand ∈ BIG := bigT8 (i := 33) rfl rfl
theorem imX7_stand : Cond.instanceMethod yX7_stand ∈ BIG := bigT8 (i := 35) rfl rfl
theorem seX7_stand : Cond.selects yX7_stand.cls yX7_stand yX7_stand ∈ BIG := bigS5 (i := 9) (q := (yX7_stand, 14)) rfl
theorem cdX7_stand : Cond.code yX7_stand cX7_stand 4 (none) ∈ BIG := bigT8 (i := 36) rfl rfl
theorem wcX7_stand : wCv yX7_stand cX7_stand 4 (none) 1 := ⟨⟨imX7_stand, seX7_stand, iniX7, cdX7_stand⟩, by decide +kernel⟩
theorem wlX7_169 : Cond.methodLink RX7 169 yX7_firstDue ∈ BIG := bigT7 (i := 127) rfl rfl
theorem imX7_firstDue : Cond.instanceMethod yX7_firstDue ∈ BIG := bigT7 (i := 129) rfl rfl
theorem seX7_firstDue : Cond.selects yX7_firstDue.cls yX7_firstDue yX7_firstDue ∈ BIG := bigS3 (i := 6) (q := (yX7_firstDue, 14)) rfl
theorem cdX7_firstDue : Cond.code yX7_firstDue cX7_firstDue 2 (some .int) ∈ BIG := bigT7 (i := 130) rfl rfl
theorem wcX7_firstDue : wCv yX7_firstDue cX7_firstDue 2 (some .int) 0 := ⟨⟨imX7_firstDue, seX7_firstDue, iniX7, cdX7_firstDue⟩, by decide +kernel⟩
theorem wlX7_179 : Cond.methodLink RX7 179 yX7_goOn ∈ BIG := bigT8 (i := 29) rfl rfl
theorem imX7_goOn : Cond.instanceMethod yX7_goOn ∈ BIG := bigT8 (i := 31) rfl rfl
theorem seX7_goOn : Cond.selects yX7_goOn.cls yX7_goOn yX7_goOn ∈ BIG := bigS5 (i := 8) (q := (yX7_goOn, 14)) rfl
theorem cdX7_goOn : Cond.code yX7_goOn cX7_goOn 3 (none) ∈ BIG := bigT8 (i := 32) rfl rfl
theorem wcX7_goOn : wCv yX7_goOn cX7_goOn 3 (none) 1 := ⟨⟨imX7_goOn, seX7_goOn, iniX7, cdX7_goOn⟩, by decide +kernel⟩
theorem wlX7_173 : Cond.methodLink RX7 173 yX7_remove ∈ BIG := bigT7 (i := 135) rfl rfl
theorem imX7_remove : Cond.instanceMethod yX7_remove ∈ BIG := bigT7 (i := 137) rfl rfl
theorem seX7_remove : Cond.selects yX7_remove.cls yX7_remove yX7_remove ∈ BIG := bigS3 (i := 8) (q := (yX7_remove, 14)) rfl
theorem cdX7_remove : Cond.code yX7_remove cX7_remove 3 (none) ∈ BIG := bigT7 (i := 138) rfl rfl
theorem wcX7_remove : wCv yX7_remove cX7_remove 3 (none) 1 := ⟨⟨imX7_remove, seX7_remove, iniX7, cdX7_remove⟩, by decide +kernel⟩
theorem wlX7_176 : Cond.methodLink RX7 176 yX7_receive ∈ BIG := bigT7 (i := 139) rfl rfl
theorem imX7_receive : Cond.instanceMethod yX7_receive ∈ BIG := bigT7 (i := 141) rfl rfl
theorem seX7_receive : Cond.selects yX7_receive.cls yX7_receive yX7_receive ∈ BIG := bigS3 (i := 9) (q := (yX7_receive, 14)) rfl
theorem cdX7_receive : Cond.code yX7_receive cX7_receive 2 (none) ∈ BIG := bigT7 (i := 142) rfl rfl
theorem wcX7_receive : wCv yX7_receive cX7_receive 2 (none) 0 := ⟨⟨imX7_receive, seX7_receive, iniX7, cdX7_receive⟩, by decide +kernel⟩
theorem wlX7_182 : Cond.methodLink RX7 182 yX7_tickOnce ∈ BIG := bigT7 (i := 123) rfl rfl
theorem imX7_tickOnce : Cond.instanceMethod yX7_tickOnce ∈ BIG := bigT7 (i := 125) rfl rfl
theorem seX7_tickOnce : Cond.selects yX7_tickOnce.cls yX7_tickOnce yX7_tickOnce ∈ BIG := bigS3 (i := 5) (q := (yX7_tickOnce, 14)) rfl
theorem cdX7_tickOnce : Cond.code yX7_tickOnce cX7_tickOnce 3 (none) ∈ BIG := bigT7 (i := 126) rfl rfl
theorem wcX7_tickOnce : wCv yX7_tickOnce cX7_tickOnce 3 (none) 0 := ⟨⟨imX7_tickOnce, seX7_tickOnce, iniX7, cdX7_tickOnce⟩, by decide +kernel⟩
theorem wlX7_185 : Cond.methodLink RX7 185 yX7_isNode ∈ BIG := bigT8 (i := 45) rfl rfl
theorem stX7_isNode : Cond.static yX7_isNode ∈ BIG := bigT8 (i := 46) rfl rfl
theorem cdX7_isNode : Cond.code yX7_isNode cX7_isNode 1 (some .boolean) ∈ BIG := bigT8 (i := 47) rfl rfl
theorem wcX7_isNode : wCs yX7_isNode cX7_isNode 1 (some .boolean) 1 := ⟨⟨stX7_isNode, iniX7, cdX7_isNode⟩, by decide +kernel⟩
theorem wlX7_188 : Cond.methodLink RX7 188 yX7_canChange ∈ BIG := bigT8 (i := 64) rfl rfl
theorem imX7_canChange : Cond.instanceMethod yX7_canChange ∈ BIG := bigT8 (i := 66) rfl rfl
theorem seX7_canChange : Cond.selects yX7_canChange.cls yX7_canChange yX7_canChange ∈ BIG := bigS5 (i := 10) (q := (yX7_canChange, 14)) rfl
theorem cdX7_canChange : Cond.code yX7_canChange cX7_canChange 3 (some .boolean) ∈ BIG := bigT8 (i := 67) rfl rfl
theorem wcX7_canChange : wCv yX7_canChange cX7_canChange 3 (some .boolean) 1 := ⟨⟨imX7_canChange, seX7_canChange, iniX7, cdX7_canChange⟩, by decide +kernel⟩
theorem wlX7_191 : Cond.methodLink RX7 191 yX7_resultOf ∈ BIG := bigT8 (i := 72) rfl rfl
theorem imX7_resultOf : Cond.instanceMethod yX7_resultOf ∈ BIG := bigT8 (i := 74) rfl rfl
theorem seX7_resultOf : Cond.selects yX7_resultOf.cls yX7_resultOf yX7_resultOf ∈ BIG := bigS5 (i := 11) (q := (yX7_resultOf, 14)) rfl
theorem cdX7_resultOf : Cond.code yX7_resultOf cX7_resultOf 4 (some .int) ∈ BIG := bigT8 (i := 75) rfl rfl
theorem wcX7_resultOf : wCv yX7_resultOf cX7_resultOf 4 (some .int) 1 := ⟨⟨imX7_resultOf, seX7_resultOf, iniX7, cdX7_resultOf⟩, by decide +kernel⟩
theorem wlX7_194 : Cond.methodLink RX7 194 yX7_echoing ∈ BIG := bigT8 (i := 88) rfl rfl
theorem imX7_echoing : Cond.instanceMethod yX7_echoing ∈ BIG := bigT8 (i := 90) rfl rfl
theorem seX7_echoing : Cond.selects yX7_echoing.cls yX7_echoing yX7_echoing ∈ BIG := bigS5 (i := 14) (q := (yX7_echoing, 14)) rfl
theorem cdX7_echoing : Cond.code yX7_echoing cX7_echoing 5 (some .int) ∈ BIG := bigT8 (i := 91) rfl rfl
theorem wcX7_echoing : wCv yX7_echoing cX7_echoing 5 (some .int) 2 := ⟨⟨imX7_echoing, seX7_echoing, iniX7, cdX7_echoing⟩, by decide +kernel⟩
theorem wlX7_197 : Cond.methodLink RX7 197 yX7_lease ∈ BIG := bigT8 (i := 84) rfl rfl
theorem imX7_lease : Cond.instanceMethod yX7_lease ∈ BIG := bigT8 (i := 86) rfl rfl
theorem seX7_lease : Cond.selects yX7_lease.cls yX7_lease yX7_lease ∈ BIG := bigS5 (i := 13) (q := (yX7_lease, 14)) rfl
theorem cdX7_lease : Cond.code yX7_lease cX7_lease 3 (some .int) ∈ BIG := bigT8 (i := 87) rfl rfl
theorem wcX7_lease : wCv yX7_lease cX7_lease 3 (some .int) 1 := ⟨⟨imX7_lease, seX7_lease, iniX7, cdX7_lease⟩, by decide +kernel⟩
theorem wlX7_200 : Cond.methodLink RX7 200 yX7_canAnswer ∈ BIG := bigT8 (i := 80) rfl rfl
theorem imX7_canAnswer : Cond.instanceMethod yX7_canAnswer ∈ BIG := bigT8 (i := 82) rfl rfl
theorem seX7_canAnswer : Cond.selects yX7_canAnswer.cls yX7_canAnswer yX7_canAnswer ∈ BIG := bigS5 (i := 12) (q := (yX7_canAnswer, 14)) rfl
theorem cdX7_canAnswer : Cond.code yX7_canAnswer cX7_canAnswer 2 (some .boolean) ∈ BIG := bigT8 (i := 83) rfl rfl
theorem wcX7_canAnswer : wCv yX7_canAnswer cX7_canAnswer 2 (some .boolean) 1 := ⟨⟨imX7_canAnswer, seX7_canAnswer, iniX7, cdX7_canAnswer⟩, by decide +kernel⟩
theorem flX7_203 : Cond.fieldLink RX7 203 "QuorumLogModel" "length" "I" ∈ BIG := bigT7 (i := 61) rfl rfl
theorem flX7_19 : Cond.fieldLink RX7 19 "QuorumLogModel" "buffer" "[C" ∈ BIG := bigT7 (i := 60) rfl rfl
theorem flX7_206 : Cond.fieldLink RX7 206 "QuorumLogModel" "isWrong" "Z" ∈ BIG := bigT7 (i := 66) rfl rfl
theorem flX7_210 : Cond.fieldLink RX7 210 "QuorumLogModel" "at" "I" ∈ BIG := bigT7 (i := 62) rfl rfl
theorem wlX7_213 : Cond.methodLink RX7 213 yX7_sees ∈ BIG := bigT8 (i := 148) rfl rfl
theorem imX7_sees : Cond.instanceMethod yX7_sees ∈ BIG := bigT8 (i := 150) rfl rfl
theorem seX7_sees : Cond.selects yX7_sees.cls yX7_sees yX7_sees ∈ BIG := bigS6 (i := 0) (q := (yX7_sees, 14)) rfl
theorem cdX7_sees : Cond.code yX7_sees cX7_sees 3 (some .boolean) ∈ BIG := bigT8 (i := 151) rfl rfl
theorem wcX7_sees : wCv yX7_sees cX7_sees 3 (some .boolean) 2 := ⟨⟨imX7_sees, seX7_sees, iniX7, cdX7_sees⟩, by decide +kernel⟩
theorem flX7_225 : Cond.fieldLink RX7 225 "QuorumLogModel" "command" "I" ∈ BIG := bigT7 (i := 63) rfl rfl
theorem flX7_238 : Cond.fieldLink RX7 238 "QuorumLogModel" "first" "I" ∈ BIG := bigT7 (i := 64) rfl rfl
theorem wlX7_244 : Cond.methodLink RX7 244 yX7_tick ∈ BIG := bigT8 (i := 170) rfl rfl
theorem imX7_tick : Cond.instanceMethod yX7_tick ∈ BIG := bigT7 (i := 120) rfl rfl
theorem seX7_tick : Cond.selects yX7_tick.cls yX7_tick yX7_tick ∈ BIG := bigT7 (i := 121) rfl rfl
theorem cdX7_tick : Cond.code yX7_tick cX7_tick 3 (some .int) ∈ BIG := bigT7 (i := 122) rfl rfl
theorem wcX7_tick : wCv yX7_tick cX7_tick 3 (some .int) 1 := ⟨⟨imX7_tick, seX7_tick, iniX7, cdX7_tick⟩, by decide +kernel⟩
theorem wlX7_247 : Cond.methodLink RX7 247 yX7_crash ∈ BIG := bigT8 (i := 171) rfl rfl
theorem imX7_crash : Cond.instanceMethod yX7_crash ∈ BIG := bigT8 (i := 49) rfl rfl
theorem seX7_crash : Cond.selects yX7_crash.cls yX7_crash yX7_crash ∈ BIG := bigT8 (i := 50) rfl rfl
theorem cdX7_crash : Cond.code yX7_crash cX7_crash 2 (some .int) ∈ BIG := bigT8 (i := 51) rfl rfl
theorem wcX7_crash : wCv yX7_crash cX7_crash 2 (some .int) 1 := ⟨⟨imX7_crash, seX7_crash, iniX7, cdX7_crash⟩, by decide +kernel⟩
theorem wlX7_250 : Cond.methodLink RX7 250 yX7_restart ∈ BIG := bigT8 (i := 172) rfl rfl
theorem imX7_restart : Cond.instanceMethod yX7_restart ∈ BIG := bigT8 (i := 53) rfl rfl
theorem seX7_restart : Cond.selects yX7_restart.cls yX7_restart yX7_restart ∈ BIG := bigT8 (i := 54) rfl rfl
theorem cdX7_restart : Cond.code yX7_restart cX7_restart 2 (some .int) ∈ BIG := bigT8 (i := 55) rfl rfl
theorem wcX7_restart : wCv yX7_restart cX7_restart 2 (some .int) 1 := ⟨⟨imX7_restart, seX7_restart, iniX7, cdX7_restart⟩, by decide +kernel⟩
theorem flX7_241 : Cond.fieldLink RX7 241 "QuorumLogModel" "second" "I" ∈ BIG := bigT7 (i := 65) rfl rfl
theorem wlX7_253 : Cond.methodLink RX7 253 yX7_setLink ∈ BIG := bigT8 (i := 173) rfl rfl
theorem imX7_setLink : Cond.instanceMethod yX7_setLink ∈ BIG := bigT8 (i := 42) rfl rfl
theorem seX7_setLink : Cond.selects yX7_setLink.cls yX7_setLink yX7_setLink ∈ BIG := bigT8 (i := 43) rfl rfl
theorem cdX7_setLink : Cond.code yX7_setLink cX7_setLink 5 (some .boolean) ∈ BIG := bigT8 (i := 44) rfl rfl
theorem wcX7_setLink : wCv yX7_setLink cX7_setLink 5 (some .boolean) 3 := ⟨⟨imX7_setLink, seX7_setLink, iniX7, cdX7_setLink⟩, by decide +kernel⟩
theorem wlX7_257 : Cond.methodLink RX7 257 yX7_submit ∈ BIG := bigT8 (i := 174) rfl rfl
theorem imX7_submit : Cond.instanceMethod yX7_submit ∈ BIG := bigT8 (i := 57) rfl rfl
theorem seX7_submit : Cond.selects yX7_submit.cls yX7_submit yX7_submit ∈ BIG := bigT8 (i := 58) rfl rfl
theorem cdX7_submit : Cond.code yX7_submit cX7_submit 4 (some .int) ∈ BIG := bigT8 (i := 59) rfl rfl
theorem wcX7_submit : wCv yX7_submit cX7_submit 4 (some .int) 2 := ⟨⟨imX7_submit, seX7_submit, iniX7, cdX7_submit⟩, by decide +kernel⟩
theorem wlX7_260 : Cond.methodLink RX7 260 yX7_pack ∈ BIG := bigT8 (i := 175) rfl rfl
theorem imX7_pack : Cond.instanceMethod yX7_pack ∈ BIG := bigT8 (i := 69) rfl rfl
theorem seX7_pack : Cond.selects yX7_pack.cls yX7_pack yX7_pack ∈ BIG := bigT8 (i := 70) rfl rfl
theorem cdX7_pack : Cond.code yX7_pack cX7_pack 9 (some .int) ∈ BIG := bigT8 (i := 71) rfl rfl
theorem wcX7_pack : wCv yX7_pack cX7_pack 9 (some .int) 1 := ⟨⟨imX7_pack, seX7_pack, iniX7, cdX7_pack⟩, by decide +kernel⟩
theorem flX7_23 : Cond.fieldLink RX7 23 "QuorumLogModel" "text" "[C" ∈ BIG := bigT7 (i := 67) rfl rfl
theorem flX7_269 : Cond.fieldLink RX7 269 "QuorumLogModel" "textLength" "I" ∈ BIG := bigT7 (i := 68) rfl rfl
theorem flX7_301 : Cond.fieldLink RX7 301 "QuorumLogModel" "isSaved" "Z" ∈ BIG := bigT7 (i := 58) rfl rfl
theorem flX7_13 : Cond.fieldLink RX7 13 "QuorumLogModel" "saved" "[I" ∈ BIG := bigT7 (i := 57) rfl rfl
theorem wlX7_304 : Cond.methodLink RX7 304 yX7_copy ∈ BIG := bigT8 (i := 211) rfl rfl
theorem stX7_copy : Cond.static yX7_copy ∈ BIG := bigT8 (i := 212) rfl rfl
theorem cdX7_copy : Cond.code yX7_copy cX7_copy 3 (none) ∈ BIG := bigT8 (i := 213) rfl rfl
theorem wcX7_copy : wCs yX7_copy cX7_copy 3 (none) 2 := ⟨⟨stX7_copy, iniX7, cdX7_copy⟩, by decide +kernel⟩
def mX7_thrown  (μ : gM) : Option Int32 :=
  some (μ 0 0 0)
set_option maxHeartbeats 4000000 in
set_option maxRecDepth 100000 in
theorem kX7_thrown (l : Launch) (D : va_G) (tc : Nat → ClassId) (sa : Nat → Nat) (ad : Nat → Nat → Nat) (hI : gI gE_R ad)  (μ : gM) (r : Int32) (h : mX7_thrown  μ = some r) : gMet l yX7_thrown cX7_thrown 1 (some .int) ({ frames := 0, cells := 0, slots := 0, locals := 0 } : Room) D gE_R gkd_R tc ad grh_R sa [.ref (ad 0 0)] μ (some (.int r)) μ := by
  refine gMet_of hI ⟨by decide +kernel, Nat.le_of_ble_eq_true rfl⟩ (fun p e s m args below meth c sz hr hlk => ?_)
  unfold mX7_thrown at h
  show JR p l e ({ frames := 0, cells := 0, slots := 0, locals := 0 } : Room) s m args below meth c cX7_thrown 1 RX7 D tc sa ad sz (some (.int r)) μ μ 0 [(0, .ref (ad 0 0))] []
  refine J_aload_n (i := 0) (q := 0) (pc1 := 1) dX7_thrown_0 rfl rfl rfl ?_
  refine J_getI (T := TX7) (pc1 := 4) eR0 rfl rfl inX7 0 (by decide) rfl flX7_30 rfl dX7_thrown_1 rfl ?_
  cases h
  exact J_iret hr hlk dX7_thrown_4
def mX7_isBetween (a1 : Int32) (a2 : Int32) (a3 : Int32) (μ : gM) : Option Int32 :=
  if a1 < a2 then
    some 0
  else
    if a3 < a1 then
      some 0
    else
      some 1
set_option maxHeartbeats 4000000 in
set_option maxRecDepth 100000 in
theorem kX7_isBetween (l : Launch) (D : va_G) (tc : Nat → ClassId) (sa : Nat → Nat) (ad : Nat → Nat → Nat) (hI : gI gE_R ad) (a1 : Int32) (a2 : Int32) (a3 : Int32) (μ : gM) (r : Int32) (h : mX7_isBetween a1 a2 a3 μ = some r) : gMet l yX7_isBetween cX7_isBetween 3 (some .boolean) ({ frames := 0, cells := 0, slots := 0, locals := 0 } : Room) D gE_R gkd_R tc ad grh_R sa [.int a1, .int a2, .int a3] μ (some (.int r)) μ := by
  refine gMet_of hI ⟨by decide +kernel, Nat.le_of_ble_eq_true rfl⟩ (fun p e s m args below meth c sz hr hlk => ?_)
  unfold mX7_isBetween at h
  show JR p l e ({ frames := 0, cells := 0, slots := 0, locals := 0 } : Room) s m args below meth c cX7_isBetween 3 RX7 D tc sa ad sz (some (.int r)) μ μ 0 [(0, .int a1), (1, .int a2), (2, .int a3)] []
  refine J_iload_n (i := 0) (q := 0) (pc1 := 1) dX7_isBetween_0 rfl rfl rfl ?_
  refine J_iload_n (i := 1) (q := 1) (pc1 := 2) dX7_isBetween_1 rfl rfl rfl ?_
  refine J_icmp_lt (tgt := 14) (pc1 := 5) dX7_isBetween_2 (by decide) (fun q1 => ?_) rfl (fun q1 => ?_)
  · rw [if_pos q1] at h
    refine J_iconst (v := 0) (pc1 := 15) dX7_isBetween_14 (by decide) rfl ?_
    cases h
    exact J_zret (by decide) hr hlk dX7_isBetween_15
  · rw [if_neg q1] at h
    refine J_iload_n (i := 0) (q := 0) (pc1 := 6) dX7_isBetween_5 rfl rfl rfl ?_
    refine J_iload_n (i := 2) (q := 2) (pc1 := 7) dX7_isBetween_6 rfl rfl rfl ?_
    refine J_icmp_gt (tgt := 14) (pc1 := 10) dX7_isBetween_7 (by decide) (fun q2 => ?_) rfl (fun q2 => ?_)
    · rw [if_pos q2] at h
      refine J_iconst (v := 0) (pc1 := 15) dX7_isBetween_14 (by decide) rfl ?_
      cases h
      exact J_zret (by decide) hr hlk dX7_isBetween_15
    · rw [if_neg q2] at h
      refine J_iconst (v := 1) (pc1 := 11) dX7_isBetween_10 (by decide) rfl ?_
      refine J_goto (tgt := 15) dX7_isBetween_11 (by decide) ?_
      cases h
      exact J_zret (by decide) hr hlk dX7_isBetween_15
def mX7_has (a1 : Int32) (a2 : Int32) (μ : gM) : Option Int32 :=
  if ((a1 >>> (a2 &&& 31)) &&& 1) = 1 then
    some 1
  else
    some 0
set_option maxHeartbeats 4000000 in
set_option maxRecDepth 100000 in
theorem kX7_has (l : Launch) (D : va_G) (tc : Nat → ClassId) (sa : Nat → Nat) (ad : Nat → Nat → Nat) (hI : gI gE_R ad) (a1 : Int32) (a2 : Int32) (μ : gM) (r : Int32) (h : mX7_has a1 a2 μ = some r) : gMet l yX7_has cX7_has 2 (some .boolean) ({ frames := 0, cells := 0, slots := 0, locals := 0 } : Room) D gE_R gkd_R tc ad grh_R sa [.int a1, .int a2] μ (some (.int r)) μ := by
  refine gMet_of hI ⟨by decide +kernel, Nat.le_of_ble_eq_true rfl⟩ (fun p e s m args below meth c sz hr hlk => ?_)
  unfold mX7_has at h
  show JR p l e ({ frames := 0, cells := 0, slots := 0, locals := 0 } : Room) s m args below meth c cX7_has 2 RX7 D tc sa ad sz (some (.int r)) μ μ 0 [(0, .int a1), (1, .int a2)] []
  refine J_iload_n (i := 0) (q := 0) (pc1 := 1) dX7_has_0 rfl rfl rfl ?_
  refine J_iload_n (i := 1) (q := 1) (pc1 := 2) dX7_has_1 rfl rfl rfl ?_
  refine J_ishr (pc1 := 3) dX7_has_2 rfl ?_
  refine J_iconst (v := 1) (pc1 := 4) dX7_has_3 (by decide) rfl ?_
  refine J_iand (pc1 := 5) dX7_has_4 rfl ?_
  refine J_iconst (v := 1) (pc1 := 6) dX7_has_5 (by decide) rfl ?_
  refine J_icmp_ne (tgt := 13) (pc1 := 9) dX7_has_6 (by decide) (fun q1 => ?_) rfl (fun q1 => ?_)
  · rw [if_neg q1] at h
    refine J_iconst (v := 0) (pc1 := 14) dX7_has_13 (by decide) rfl ?_
    cases h
    exact J_zret (by decide) hr hlk dX7_has_14
  · rw [if_pos q1] at h
    refine J_iconst (v := 1) (pc1 := 10) dX7_has_9 (by decide) rfl ?_
    refine J_goto (tgt := 14) dX7_has_10 (by decide) ?_
    cases h
    exact J_zret (by decide) hr hlk dX7_has_14
def mX7_countBits (a1 : Int32) (μ : gM) : Option Int32 :=
  gJon (fun (x1 : Int32) =>
      some x1) fun j2 =>
  gFx2 (fun rec5 (x3 : Int32) (x4 : Int32) =>
      if x4 = 0 then
        j2 x3
      else
        gLet (α := Int32) (x4 &&& (x4 - 1)) fun x7 =>
        rec5 (x3 + 1) x7) 1000000 0 a1
set_option maxHeartbeats 4000000 in
set_option maxRecDepth 100000 in
theorem kX7_countBits (l : Launch) (D : va_G) (tc : Nat → ClassId) (sa : Nat → Nat) (ad : Nat → Nat → Nat) (hI : gI gE_R ad) (a1 : Int32) (μ : gM) (r : Int32) (h : mX7_countBits a1 μ = some r) : gMet l yX7_countBits cX7_countBits 3 (some .int) ({ frames := 0, cells := 0, slots := 0, locals := 0 } : Room) D gE_R gkd_R tc ad grh_R sa [.int a1] μ (some (.int r)) μ := by
  refine gMet_of hI ⟨by decide +kernel, Nat.le_of_ble_eq_true rfl⟩ (fun p e s m args below meth c sz hr hlk => ?_)
  unfold mX7_countBits at h
  show JR p l e ({ frames := 0, cells := 0, slots := 0, locals := 0 } : Room) s m args below meth c cX7_countBits 3 RX7 D tc sa ad sz (some (.int r)) μ μ 0 [(0, .int a1)] []
  refine J_iconst (v := 0) (pc1 := 1) dX7_countBits_0 (by decide) rfl ?_
  refine J_istore_n (i := 1) (lv1 := [(1, .int 0), (0, .int a1)]) (pc1 := 2) dX7_countBits_1 rfl (by decide) rfl rfl ?_
  refine J_iload_n (i := 0) (q := 1) (pc1 := 3) dX7_countBits_2 rfl rfl rfl ?_
  refine J_istore_n (i := 2) (lv1 := [(2, .int a1), (1, .int 0), (0, .int a1)]) (pc1 := 4) dX7_countBits_3 rfl (by decide) rfl rfl ?_
  obtain ⟨j2, ej2, h⟩ := gJon_s h
  have kj2 : ∀ (x1 : Int32), j2 x1 = some r → JR p l e ({ frames := 0, cells := 0, slots := 0, locals := 0 } : Room) s m args below meth c cX7_countBits 3 RX7 D tc sa ad sz (some (.int r)) μ μ 20 [(1, .int x1)] [] := by
    intro x1 h
    rw [ej2] at h
    try dsimp only at h
    refine J_iload_n (i := 1) (q := 0) (pc1 := 21) dX7_countBits_20 rfl rfl rfl ?_
    cases h
    exact J_iret hr hlk dX7_countBits_21
  clear ej2
  refine J_sub [1, 0] (lv1 := [(1, .int 0), (2, .int a1)]) rfl ?_
  refine gFx2_s (P := fun x3 x4 => JR p l e ({ frames := 0, cells := 0, slots := 0, locals := 0 } : Room) s m args below meth c cX7_countBits 3 RX7 D tc sa ad sz (some (.int r)) μ μ 4 [(1, .int x3), (2, .int x4)] []) (fun rec5 ihrec5 x3 x4 h => ?_) _ _ _ h
  try dsimp only at h
  refine J_iload_n (i := 2) (q := 1) (pc1 := 5) dX7_countBits_4 rfl rfl rfl ?_
  refine J_if_eq (tgt := 20) (pc1 := 8) dX7_countBits_5 (by decide) (fun q6 => ?_) rfl (fun q6 => ?_)
  · rw [if_pos q6] at h
    refine J_sub [0] (lv1 := [(1, .int x3)]) rfl ?_
    exact kj2 _ h
  · rw [if_neg q6] at h
    refine J_iinc (i := 1) (q := 0) (v := x3 + 1) (lv1 := [(1, .int (x3 + 1)), (2, .int x4)]) (pc1 := 11) dX7_countBits_8 rfl rfl (by decide) rfl rfl ?_
    refine J_iload_n (i := 2) (q := 1) (pc1 := 12) dX7_countBits_11 rfl rfl rfl ?_
    refine J_iload_n (i := 2) (q := 1) (pc1 := 13) dX7_countBits_12 rfl rfl rfl ?_
    refine J_iconst (v := 1) (pc1 := 14) dX7_countBits_13 (by decide) rfl ?_
    refine J_isub (pc1 := 15) dX7_countBits_14 rfl ?_
    refine J_iand (pc1 := 16) dX7_countBits_15 rfl ?_
    obtain ⟨x7, e9, h⟩ := gLet_s h
    refine J_top (fun y8 e10 => ?_)
    have e10x : x7 = y8 := (e10.trans e9.symm).symm
    subst e10x
    refine J_istore_n (i := 2) (lv1 := [(2, .int x7), (1, .int (x3 + 1))]) (pc1 := 17) dX7_countBits_16 rfl (by decide) rfl rfl ?_
    refine J_goto (tgt := 4) dX7_countBits_17 (by decide) ?_
    refine J_sub [1, 0] (lv1 := [(1, .int (x3 + 1)), (2, .int x7)]) rfl ?_
    exact ihrec5 _ _ h
def mX7_copy (f1 : Nat) (f2 : Nat) (μ : gM) : Option gM :=
  gJon (fun (μ1 : gM) =>
      some μ1) fun j2 =>
  gFx2 (fun rec5 (x3 : Int32) (μ4 : gM) =>
      if 1616 ≤ x3 then
        j2 μ4
      else
        gChk (inb x3 1616) <|
        gChk (inb x3 1616) <|
        gLet (α := gM) (w3 μ4 f2 0 (x3.toNatClampNeg) (μ4 f1 0 (x3.toNatClampNeg))) fun μ9 =>
        rec5 (x3 + 1) μ9) 1000000 0 μ
set_option maxHeartbeats 4000000 in
set_option maxRecDepth 100000 in
theorem kX7_copy (l : Launch) (D : va_G) (tc : Nat → ClassId) (sa : Nat → Nat) (ad : Nat → Nat → Nat) (hI : gI gE_R ad) (f1 : Nat) (hf1 : (f1, 0) ∈ gE_R) (hk1 : gkd_R f1 = .inr (.inl (0, 1616))) (f2 : Nat) (hf2 : (f2, 0) ∈ gE_R) (hk2 : gkd_R f2 = .inr (.inl (0, 1616))) (μ : gM) (μ' : gM) (h : mX7_copy f1 f2 μ = some μ') : gMet l yX7_copy cX7_copy 3 (none) ({ frames := 0, cells := 0, slots := 0, locals := 0 } : Room) D gE_R gkd_R tc ad grh_R sa [.ref (ad f1 0), .ref (ad f2 0)] μ (none) μ' := by
  refine gMet_of hI ⟨by decide +kernel, Nat.le_of_ble_eq_true rfl⟩ (fun p e s m args below meth c sz hr hlk => ?_)
  unfold mX7_copy at h
  show JR p l e ({ frames := 0, cells := 0, slots := 0, locals := 0 } : Room) s m args below meth c cX7_copy 3 RX7 D tc sa ad sz (none) μ' μ 0 [(0, .ref (ad f1 0)), (1, .ref (ad f2 0))] []
  refine J_iconst (v := 0) (pc1 := 1) dX7_copy_0 (by decide) rfl ?_
  refine J_istore_n (i := 2) (lv1 := [(2, .int 0), (0, .ref (ad f1 0)), (1, .ref (ad f2 0))]) (pc1 := 2) dX7_copy_1 rfl (by decide) rfl rfl ?_
  obtain ⟨j2, ej2, h⟩ := gJon_s h
  have kj2 : ∀ (μ1 : gM), j2 μ1 = some μ' → JR p l e ({ frames := 0, cells := 0, slots := 0, locals := 0 } : Room) s m args below meth c cX7_copy 3 RX7 D tc sa ad sz (none) μ' μ1 20 [] [] := by
    intro μ1 h
    rw [ej2] at h
    try dsimp only at h
    cases h
    exact J_vret hr hlk dX7_copy_20
  clear ej2
  refine J_sub [1, 2, 0] (lv1 := [(0, .ref (ad f1 0)), (1, .ref (ad f2 0)), (2, .int 0)]) rfl ?_
  refine gFx2_s (P := fun x3 μ4 => JR p l e ({ frames := 0, cells := 0, slots := 0, locals := 0 } : Room) s m args below meth c cX7_copy 3 RX7 D tc sa ad sz (none) μ' μ4 2 [(0, .ref (ad f1 0)), (1, .ref (ad f2 0)), (2, .int x3)] []) (fun rec5 ihrec5 x3 μ4 h => ?_) _ _ _ h
  try dsimp only at h
  refine J_iload_n (i := 2) (q := 2) (pc1 := 3) dX7_copy_2 rfl rfl rfl ?_
  refine J_aload_n (i := 0) (q := 0) (pc1 := 4) dX7_copy_3 rfl rfl rfl ?_
  refine J_alen (v := 1616) (n := 1616) (pc1 := 5) hf1 hk1 rfl rfl dX7_copy_4 rfl ?_
  refine J_icmp_ge (tgt := 20) (pc1 := 8) dX7_copy_5 (by decide) (fun q6 => ?_) rfl (fun q6 => ?_)
  · rw [if_pos q6] at h
    refine J_sub [] (lv1 := []) rfl ?_
    exact kj2 _ h
  · rw [if_neg q6] at h
    refine J_aload_n (i := 1) (q := 1) (pc1 := 9) dX7_copy_8 rfl rfl rfl ?_
    refine J_iload_n (i := 2) (q := 2) (pc1 := 10) dX7_copy_9 rfl rfl rfl ?_
    refine J_aload_n (i := 0) (q := 0) (pc1 := 11) dX7_copy_10 rfl rfl rfl ?_
    refine J_iload_n (i := 2) (q := 2) (pc1 := 12) dX7_copy_11 rfl rfl rfl ?_
    obtain ⟨h7, h⟩ := gChk_s h
    refine J_iald (ix := (x3.toNatClampNeg)) (pc1 := 13) rfl hf1 hk1 h7 dX7_copy_12 rfl ?_
    obtain ⟨h8, h⟩ := gChk_s h
    refine J_iast (ix := (x3.toNatClampNeg)) (pc1 := 14) rfl hf2 hk2 h8 dX7_copy_13 rfl ?_
    obtain ⟨μ9, e10, h⟩ := gLet_s h
    rw [← e10]
    clear e10
    refine J_iinc (i := 2) (q := 2) (v := x3 + 1) (lv1 := [(2, .int (x3 + 1)), (0, .ref (ad f1 0)), (1, .ref (ad f2 0))]) (pc1 := 17) dX7_copy_14 rfl rfl (by decide) rfl rfl ?_
    refine J_goto (tgt := 2) dX7_copy_17 (by decide) ?_
    refine J_sub [1, 2, 0] (lv1 := [(0, .ref (ad f1 0)), (1, .ref (ad f2 0)), (2, .int (x3 + 1))]) rfl ?_
    exact ihrec5 _ _ h
def mX7_fails (a1 : Int32) (a2 : Int32) (μ : gM) : Option (Int32 × gM) :=
  gLet (α := Int32) (if a2 = 0 then 0 else a1) fun x1 =>
  gLet (α := gM) (w3 μ 0 0 0 x1) fun μ5 =>
  gChk (a2 = 0 ∨ a2 = 1) <|
  some (a2, μ5)
set_option maxHeartbeats 4000000 in
set_option maxRecDepth 100000 in
theorem kX7_fails (l : Launch) (D : va_G) (tc : Nat → ClassId) (sa : Nat → Nat) (ad : Nat → Nat → Nat) (hI : gI gE_R ad) (a1 : Int32) (a2 : Int32) (μ : gM) (r : Int32) (μ' : gM) (h : mX7_fails a1 a2 μ = some (r, μ')) : gMet l yX7_fails cX7_fails 3 (some .boolean) ({ frames := 0, cells := 0, slots := 0, locals := 0 } : Room) D gE_R gkd_R tc ad grh_R sa [.ref (ad 0 0), .int a1, .int a2] μ (some (.int r)) μ' := by
  refine gMet_of hI ⟨by decide +kernel, Nat.le_of_ble_eq_true rfl⟩ (fun p e s m args below meth c sz hr hlk => ?_)
  unfold mX7_fails at h
  show JR p l e ({ frames := 0, cells := 0, slots := 0, locals := 0 } : Room) s m args below meth c cX7_fails 3 RX7 D tc sa ad sz (some (.int r)) μ' μ 0 [(0, .ref (ad 0 0)), (1, .int a1), (2, .int a2)] []
  refine J_aload_n (i := 0) (q := 0) (pc1 := 1) dX7_fails_0 rfl rfl rfl ?_
  refine J_iload_n (i := 2) (q := 2) (pc1 := 2) dX7_fails_1 rfl rfl rfl ?_
  obtain ⟨x1, e2, h⟩ := gLet_s h
  have k3 : JR p l e ({ frames := 0, cells := 0, slots := 0, locals := 0 } : Room) s m args below meth c cX7_fails 3 RX7 D tc sa ad sz (some (.int r)) μ' μ 10 [(0, .ref (ad 0 0)), (1, .int a1), (2, .int a2)] [.int x1, .ref (ad 0 0)] := by
    refine J_putI (T := TX7) (pc1 := 13) eR0 rfl rfl inX7 tyX7 tyX7_ok nmX7 0 (by decide) rfl (fun _ _ _ _ => rfl) flX7_30 rfl rfl rfl rfl dX7_fails_10 rfl ?_
    obtain ⟨μ5, e6, h⟩ := gLet_s h
    rw [← e6]
    clear e6
    refine J_iload_n (i := 2) (q := 2) (pc1 := 14) dX7_fails_13 rfl rfl rfl ?_
    obtain ⟨h7, h⟩ := gChk_s h
    cases h
    exact J_zret h7 hr hlk dX7_fails_14
  refine J_if_eq (tgt := 9) (pc1 := 5) dX7_fails_2 (by decide) (fun q4 => ?_) rfl (fun q4 => ?_)
  · rw [if_pos q4] at e2
    subst e2
    refine J_iconst (v := 0) (pc1 := 10) dX7_fails_9 (by decide) rfl ?_
    exact k3
  · rw [if_neg q4] at e2
    subst e2
    refine J_iload_n (i := 1) (q := 1) (pc1 := 6) dX7_fails_5 rfl rfl rfl ?_
    refine J_goto (tgt := 10) dX7_fails_6 (by decide) ?_
    exact k3
def mX7_isNode (a1 : Int32) (μ : gM) : Option Int32 :=
  gBp (mX7_isBetween a1 0 4 μ) fun r2 =>
  gChk (r2 = 0 ∨ r2 = 1) <|
  some r2
set_option maxHeartbeats 4000000 in
set_option maxRecDepth 100000 in
theorem kX7_isNode (l : Launch) (D : va_G) (tc : Nat → ClassId) (sa : Nat → Nat) (ad : Nat → Nat → Nat) (hI : gI gE_R ad) (a1 : Int32) (μ : gM) (r : Int32) (h : mX7_isNode a1 μ = some r) : gMet l yX7_isNode cX7_isNode 1 (some .boolean) ({ frames := 1, cells := 0, slots := 0, locals := 22 } : Room) D gE_R gkd_R tc ad grh_R sa [.int a1] μ (some (.int r)) μ := by
  refine gMet_of hI ⟨by decide +kernel, Nat.le_of_ble_eq_true rfl⟩ (fun p e s m args below meth c sz hr hlk => ?_)
  unfold mX7_isNode at h
  show JR p l e ({ frames := 1, cells := 0, slots := 0, locals := 22 } : Room) s m args below meth c cX7_isNode 1 RX7 D tc sa ad sz (some (.int r)) μ μ 0 [(0, .int a1)] []
  refine J_iload_n (i := 0) (q := 0) (pc1 := 1) dX7_isNode_0 rfl rfl rfl ?_
  refine J_iconst (v := 0) (pc1 := 2) dX7_isNode_1 (by decide) rfl ?_
  refine J_iconst (v := 4) (pc1 := 3) dX7_isNode_2 (by decide) rfl ?_
  obtain ⟨r2, hc1, h⟩ := gBp_s h
  refine J_callS (As := [.int a1, .int 0, .int 4]) (st := []) (st1 := [.int r2]) (pc1 := 6) (kX7_isBetween l D tc sa ad hI a1 0 4 μ r2 hc1) wcX7_isBetween wlX7_34 rfl ⟨rfl, rfl, Nat.le_of_ble_eq_true rfl, Nat.le_of_ble_eq_true rfl⟩ ⟨Nat.zero_le _, Nat.zero_le _⟩ (Nat.le_of_ble_eq_true rfl) dX7_isNode_3 rfl rfl ?_
  obtain ⟨h3, h⟩ := gChk_s h
  cases h
  exact J_zret h3 hr hlk dX7_isNode_6
def mX7_isGroup (a1 : Int32) (μ : gM) : Option Int32 :=
  gBp (mX7_isBetween a1 1 31 μ) fun r2 =>
  gChk (r2 = 0 ∨ r2 = 1) <|
  some r2
set_option maxHeartbeats 4000000 in
set_option maxRecDepth 100000 in
theorem kX7_isGroup (l : Launch) (D : va_G) (tc : Nat → ClassId) (sa : Nat → Nat) (ad : Nat → Nat → Nat) (hI : gI gE_R ad) (a1 : Int32) (μ : gM) (r : Int32) (h : mX7_isGroup a1 μ = some r) : gMet l yX7_isGroup cX7_isGroup 1 (some .boolean) ({ frames := 1, cells := 0, slots := 0, locals := 22 } : Room) D gE_R gkd_R tc ad grh_R sa [.int a1] μ (some (.int r)) μ := by
  refine gMet_of hI ⟨by decide +kernel, Nat.le_of_ble_eq_true rfl⟩ (fun p e s m args below meth c sz hr hlk => ?_)
  unfold mX7_isGroup at h
  show JR p l e ({ frames := 1, cells := 0, slots := 0, locals := 22 } : Room) s m args below meth c cX7_isGroup 1 RX7 D tc sa ad sz (some (.int r)) μ μ 0 [(0, .int a1)] []
  refine J_iload_n (i := 0) (q := 0) (pc1 := 1) dX7_isGroup_0 rfl rfl rfl ?_
  refine J_iconst (v := 1) (pc1 := 2) dX7_isGroup_1 (by decide) rfl ?_
  refine J_bipush (v := 31) (pc1 := 4) dX7_isGroup_2 (by decide) rfl ?_
  obtain ⟨r2, hc1, h⟩ := gBp_s h
  refine J_callS (As := [.int a1, .int 1, .int 31]) (st := []) (st1 := [.int r2]) (pc1 := 7) (kX7_isBetween l D tc sa ad hI a1 1 31 μ r2 hc1) wcX7_isBetween wlX7_34 rfl ⟨rfl, rfl, Nat.le_of_ble_eq_true rfl, Nat.le_of_ble_eq_true rfl⟩ ⟨Nat.zero_le _, Nat.zero_le _⟩ (Nat.le_of_ble_eq_true rfl) dX7_isGroup_4 rfl rfl ?_
  obtain ⟨h3, h⟩ := gChk_s h
  cases h
  exact J_zret h3 hr hlk dX7_isGroup_7
def mX7_of (a1 : Int32) (a2 : Int32) (μ : gM) : Option Int32 :=
  gChk (inb ((116 + (a1 * 100)) + a2) 1616) <|
  some (μ 1 0 (((116 + (a1 * 100)) + a2).toNatClampNeg))
set_option maxHeartbeats 4000000 in
set_option maxRecDepth 100000 in
theorem kX7_of (l : Launch) (D : va_G) (tc : Nat → ClassId) (sa : Nat → Nat) (ad : Nat → Nat → Nat) (hI : gI gE_R ad) (a1 : Int32) (a2 : Int32) (μ : gM) (r : Int32) (h : mX7_of a1 a2 μ = some r) : gMet l yX7_of cX7_of 3 (some .int) ({ frames := 0, cells := 0, slots := 0, locals := 0 } : Room) D gE_R gkd_R tc ad grh_R sa [.ref (ad 0 0), .int a1, .int a2] μ (some (.int r)) μ := by
  refine gMet_of hI ⟨by decide +kernel, Nat.le_of_ble_eq_true rfl⟩ (fun p e s m args below meth c sz hr hlk => ?_)
  unfold mX7_of at h
  show JR p l e ({ frames := 0, cells := 0, slots := 0, locals := 0 } : Room) s m args below meth c cX7_of 3 RX7 D tc sa ad sz (some (.int r)) μ μ 0 [(0, .ref (ad 0 0)), (1, .int a1), (2, .int a2)] []
  refine J_aload_n (i := 0) (q := 0) (pc1 := 1) dX7_of_0 rfl rfl rfl ?_
  refine J_getR (T := TX7) (f' := 1) (i' := 0) (pc1 := 4) eR0 rfl rfl inX7 1 (by decide) rfl rfl flX7_9 rfl dX7_of_1 rfl ?_
  refine J_bipush (v := 116) (pc1 := 6) dX7_of_4 (by decide) rfl ?_
  refine J_iload_n (i := 1) (q := 1) (pc1 := 7) dX7_of_6 rfl rfl rfl ?_
  refine J_bipush (v := 100) (pc1 := 9) dX7_of_7 (by decide) rfl ?_
  refine J_imul (pc1 := 10) dX7_of_9 rfl ?_
  refine J_iadd (pc1 := 11) dX7_of_10 rfl ?_
  refine J_iload_n (i := 2) (q := 2) (pc1 := 12) dX7_of_11 rfl rfl rfl ?_
  refine J_iadd (pc1 := 13) dX7_of_12 rfl ?_
  obtain ⟨h1, h⟩ := gChk_s h
  refine J_iald (ix := (((116 + (a1 * 100)) + a2).toNatClampNeg)) (pc1 := 14) rfl eR1 rfl h1 dX7_of_13 rfl ?_
  cases h
  exact J_iret hr hlk dX7_of_14
def mX7_set (a1 : Int32) (a2 : Int32) (a3 : Int32) (μ : gM) : Option gM :=
  gChk (inb ((116 + (a1 * 100)) + a2) 1616) <|
  gLet (α := gM) (w3 μ 1 0 (((116 + (a1 * 100)) + a2).toNatClampNeg) a3) fun μ2 =>
  some μ2
set_option maxHeartbeats 4000000 in
set_option maxRecDepth 100000 in
theorem kX7_set (l : Launch) (D : va_G) (tc : Nat → ClassId) (sa : Nat → Nat) (ad : Nat → Nat → Nat) (hI : gI gE_R ad) (a1 : Int32) (a2 : Int32) (a3 : Int32) (μ : gM) (μ' : gM) (h : mX7_set a1 a2 a3 μ = some μ') : gMet l yX7_set cX7_set 4 (none) ({ frames := 0, cells := 0, slots := 0, locals := 0 } : Room) D gE_R gkd_R tc ad grh_R sa [.ref (ad 0 0), .int a1, .int a2, .int a3] μ (none) μ' := by
  refine gMet_of hI ⟨by decide +kernel, Nat.le_of_ble_eq_true rfl⟩ (fun p e s m args below meth c sz hr hlk => ?_)
  unfold mX7_set at h
  show JR p l e ({ frames := 0, cells := 0, slots := 0, locals := 0 } : Room) s m args below meth c cX7_set 4 RX7 D tc sa ad sz (none) μ' μ 0 [(0, .ref (ad 0 0)), (1, .int a1), (2, .int a2), (3, .int a3)] []
  refine J_aload_n (i := 0) (q := 0) (pc1 := 1) dX7_set_0 rfl rfl rfl ?_
  refine J_getR (T := TX7) (f' := 1) (i' := 0) (pc1 := 4) eR0 rfl rfl inX7 1 (by decide) rfl rfl flX7_9 rfl dX7_set_1 rfl ?_
  refine J_bipush (v := 116) (pc1 := 6) dX7_set_4 (by decide) rfl ?_
  refine J_iload_n (i := 1) (q := 1) (pc1 := 7) dX7_set_6 rfl rfl rfl ?_
  refine J_bipush (v := 100) (pc1 := 9) dX7_set_7 (by decide) rfl ?_
  refine J_imul (pc1 := 10) dX7_set_9 rfl ?_
  refine J_iadd (pc1 := 11) dX7_set_10 rfl ?_
  refine J_iload_n (i := 2) (q := 2) (pc1 := 12) dX7_set_11 rfl rfl rfl ?_
  refine J_iadd (pc1 := 13) dX7_set_12 rfl ?_
  refine J_iload_n (i := 3) (q := 3) (pc1 := 14) dX7_set_13 rfl rfl rfl ?_
  obtain ⟨h1, h⟩ := gChk_s h
  refine J_iast (ix := (((116 + (a1 * 100)) + a2).toNatClampNeg)) (pc1 := 15) rfl eR1 rfl h1 dX7_set_14 rfl ?_
  obtain ⟨μ2, e3, h⟩ := gLet_s h
  rw [← e3]
  clear e3
  cases h
  exact J_vret hr hlk dX7_set_15
def mX7_resetTimer (a1 : Int32) (μ : gM) : Option gM :=
  gBp (mX7_of a1 2 μ) fun r2 =>
  gLet (α := Int32) (ushr ((((μ 1 0 2) + (5 * r2)) + a1) * (-1640531527)) 20) fun x3 =>
  gBp (mX7_set a1 5 (8 + (x3 &&& 7)) μ) fun μ8 =>
  some μ8
set_option maxHeartbeats 4000000 in
set_option maxRecDepth 100000 in
theorem kX7_resetTimer (l : Launch) (D : va_G) (tc : Nat → ClassId) (sa : Nat → Nat) (ad : Nat → Nat → Nat) (hI : gI gE_R ad) (a1 : Int32) (μ : gM) (μ' : gM) (h : mX7_resetTimer a1 μ = some μ') : gMet l yX7_resetTimer cX7_resetTimer 3 (none) ({ frames := 1, cells := 0, slots := 0, locals := 23 } : Room) D gE_R gkd_R tc ad grh_R sa [.ref (ad 0 0), .int a1] μ (none) μ' := by
  refine gMet_of hI ⟨by decide +kernel, Nat.le_of_ble_eq_true rfl⟩ (fun p e s m args below meth c sz hr hlk => ?_)
  unfold mX7_resetTimer at h
  show JR p l e ({ frames := 1, cells := 0, slots := 0, locals := 23 } : Room) s m args below meth c cX7_resetTimer 3 RX7 D tc sa ad sz (none) μ' μ 0 [(0, .ref (ad 0 0)), (1, .int a1)] []
  refine J_aload_n (i := 0) (q := 0) (pc1 := 1) dX7_resetTimer_0 rfl rfl rfl ?_
  refine J_getR (T := TX7) (f' := 1) (i' := 0) (pc1 := 4) eR0 rfl rfl inX7 1 (by decide) rfl rfl flX7_9 rfl dX7_resetTimer_1 rfl ?_
  refine J_iconst (v := 2) (pc1 := 5) dX7_resetTimer_4 (by decide) rfl ?_
  refine J_iald (ix := 2) (pc1 := 6) (by decide) eR1 rfl (by decide : inb 2 1616) dX7_resetTimer_5 rfl ?_
  refine J_iconst (v := 5) (pc1 := 7) dX7_resetTimer_6 (by decide) rfl ?_
  refine J_aload_n (i := 0) (q := 0) (pc1 := 8) dX7_resetTimer_7 rfl rfl rfl ?_
  refine J_iload_n (i := 1) (q := 1) (pc1 := 9) dX7_resetTimer_8 rfl rfl rfl ?_
  refine J_iconst (v := 2) (pc1 := 10) dX7_resetTimer_9 (by decide) rfl ?_
  obtain ⟨r2, hc1, h⟩ := gBp_s h
  refine J_callV (As := [.int a1, .int 2]) (ad := ad) (f := 0) (i := 0) (st := [.int 5, .int (μ 1 0 2)]) (st1 := [.int r2, .int 5, .int (μ 1 0 2)]) (pc1 := 13) (kX7_of l D tc sa ad hI a1 2 μ r2 hc1) wcX7_of wlX7_38 eR0 rfl rfl rfl ⟨rfl, rfl, Nat.le_of_ble_eq_true rfl, Nat.le_of_ble_eq_true rfl⟩ ⟨Nat.zero_le _, Nat.zero_le _⟩ (Nat.le_of_ble_eq_true rfl) dX7_resetTimer_10 rfl rfl ?_
  refine J_imul (pc1 := 14) dX7_resetTimer_13 rfl ?_
  refine J_iadd (pc1 := 15) dX7_resetTimer_14 rfl ?_
  refine J_iload_n (i := 1) (q := 1) (pc1 := 16) dX7_resetTimer_15 rfl rfl rfl ?_
  refine J_iadd (pc1 := 17) dX7_resetTimer_16 rfl ?_
  refine J_ldc (v := (-1640531527)) (pc1 := 19) ctX7_42 dX7_resetTimer_17 rfl ?_
  refine J_imul (pc1 := 20) dX7_resetTimer_19 rfl ?_
  refine J_bipush (v := 20) (pc1 := 22) dX7_resetTimer_20 (by decide) rfl ?_
  refine J_iushr (pc1 := 23) dX7_resetTimer_22 rfl ?_
  obtain ⟨x3, e5, h⟩ := gLet_s h
  refine J_top (fun y4 e6 => ?_)
  have e6x : x3 = y4 := (e6.trans e5.symm).symm
  subst e6x
  refine J_istore_n (i := 2) (lv1 := [(2, .int x3), (0, .ref (ad 0 0)), (1, .int a1)]) (pc1 := 24) dX7_resetTimer_23 rfl (by decide) rfl rfl ?_
  refine J_aload_n (i := 0) (q := 1) (pc1 := 25) dX7_resetTimer_24 rfl rfl rfl ?_
  refine J_iload_n (i := 1) (q := 2) (pc1 := 26) dX7_resetTimer_25 rfl rfl rfl ?_
  refine J_iconst (v := 5) (pc1 := 27) dX7_resetTimer_26 (by decide) rfl ?_
  refine J_bipush (v := 8) (pc1 := 29) dX7_resetTimer_27 (by decide) rfl ?_
  refine J_iload_n (i := 2) (q := 0) (pc1 := 30) dX7_resetTimer_29 rfl rfl rfl ?_
  refine J_bipush (v := 7) (pc1 := 32) dX7_resetTimer_30 (by decide) rfl ?_
  refine J_iand (pc1 := 33) dX7_resetTimer_32 rfl ?_
  refine J_iadd (pc1 := 34) dX7_resetTimer_33 rfl ?_
  obtain ⟨μ8, hc7, h⟩ := gBp_s h
  refine J_callV (As := [.int a1, .int 5, .int (8 + (x3 &&& 7))]) (ad := ad) (f := 0) (i := 0) (st := []) (st1 := []) (pc1 := 37) (kX7_set l D tc sa ad hI a1 5 (8 + (x3 &&& 7)) μ μ8 hc7) wcX7_set wlX7_43 eR0 rfl rfl rfl ⟨rfl, rfl, Nat.le_of_ble_eq_true rfl, Nat.le_of_ble_eq_true rfl⟩ ⟨Nat.zero_le _, Nat.zero_le _⟩ (Nat.le_of_ble_eq_true rfl) dX7_resetTimer_34 rfl rfl ?_
  cases h
  exact J_vret hr hlk dX7_resetTimer_37
def mX7_begin (a1 : Int32) (a2 : Int32) (μ : gM) : Option gM :=
  gJon (fun (μ1 : gM) =>
      gLet (α := gM) (w3 μ1 1 0 1 1) fun μ3 =>
      gLet (α := gM) (w3 μ3 1 0 2 a2) fun μ5 =>
      gJon (fun (μ7 : gM) =>
          gJon (fun (μ9 : gM) =>
              some μ9) fun j10 =>
          gFx2 (fun rec13 (x11 : Int32) (μ12 : gM) =>
              if 5 ≤ x11 then
                j10 μ12
              else
                gBp (mX7_set x11 0 1 μ12) fun μ16 =>
                gBp (mX7_set x11 3 (-1) μ16) fun μ18 =>
                gBp (mX7_set x11 11 a1 μ18) fun μ20 =>
                gBp (mX7_resetTimer x11 μ20) fun μ22 =>
                rec13 (x11 + 1) μ22) 1000000 0 μ7) fun j8 =>
      gFx2 (fun rec25 (x23 : Int32) (μ24 : gM) =>
          if 100 ≤ x23 then
            j8 μ24
          else
            gChk (inb (16 + x23) 1616) <|
            gLet (α := gM) (w3 μ24 1 0 ((16 + x23).toNatClampNeg) (-1)) fun μ28 =>
            rec25 (x23 + 1) μ28) 1000000 0 μ5) fun j2 =>
  gFx2 (fun rec32 (x30 : Int32) (μ31 : gM) =>
      if 1616 ≤ x30 then
        j2 μ31
      else
        gChk (inb x30 1616) <|
        gLet (α := gM) (w3 μ31 1 0 (x30.toNatClampNeg) 0) fun μ35 =>
        rec32 (x30 + 1) μ35) 1000000 0 μ
set_option maxHeartbeats 4000000 in
set_option maxRecDepth 100000 in
theorem kX7_begin (l : Launch) (D : va_G) (tc : Nat → ClassId) (sa : Nat → Nat) (ad : Nat → Nat → Nat) (hI : gI gE_R ad) (a1 : Int32) (a2 : Int32) (μ : gM) (μ' : gM) (h : mX7_begin a1 a2 μ = some μ') : gMet l yX7_begin cX7_begin 4 (none) ({ frames := 2, cells := 0, slots := 0, locals := 45 } : Room) D gE_R gkd_R tc ad grh_R sa [.ref (ad 0 0), .int a1, .int a2] μ (none) μ' := by
  refine gMet_of hI ⟨by decide +kernel, Nat.le_of_ble_eq_true rfl⟩ (fun p e s m args below meth c sz hr hlk => ?_)
  unfold mX7_begin at h
  show JR p l e ({ frames := 2, cells := 0, slots := 0, locals := 45 } : Room) s m args below meth c cX7_begin 4 RX7 D tc sa ad sz (none) μ' μ 0 [(0, .ref (ad 0 0)), (1, .int a1), (2, .int a2)] []
  refine J_iconst (v := 0) (pc1 := 1) dX7_begin_0 (by decide) rfl ?_
  refine J_istore_n (i := 3) (lv1 := [(3, .int 0), (0, .ref (ad 0 0)), (1, .int a1), (2, .int a2)]) (pc1 := 2) dX7_begin_1 rfl (by decide) rfl rfl ?_
  obtain ⟨j2, ej2, h⟩ := gJon_s h
  have kj2 : ∀ (μ1 : gM), j2 μ1 = some μ' → JR p l e ({ frames := 2, cells := 0, slots := 0, locals := 45 } : Room) s m args below meth c cX7_begin 4 RX7 D tc sa ad sz (none) μ' μ1 22 [(0, .ref (ad 0 0)), (1, .int a1), (2, .int a2)] [] := by
    intro μ1 h
    rw [ej2] at h
    try dsimp only at h
    refine J_aload_n (i := 0) (q := 0) (pc1 := 23) dX7_begin_22 rfl rfl rfl ?_
    refine J_getR (T := TX7) (f' := 1) (i' := 0) (pc1 := 26) eR0 rfl rfl inX7 1 (by decide) rfl rfl flX7_9 rfl dX7_begin_23 rfl ?_
    refine J_iconst (v := 1) (pc1 := 27) dX7_begin_26 (by decide) rfl ?_
    refine J_iconst (v := 1) (pc1 := 28) dX7_begin_27 (by decide) rfl ?_
    refine J_iast (ix := 1) (pc1 := 29) (by decide) eR1 rfl (by decide : inb 1 1616) dX7_begin_28 rfl ?_
    obtain ⟨μ3, e4, h⟩ := gLet_s h
    rw [← e4]
    clear e4
    refine J_aload_n (i := 0) (q := 0) (pc1 := 30) dX7_begin_29 rfl rfl rfl ?_
    refine J_getR (T := TX7) (f' := 1) (i' := 0) (pc1 := 33) eR0 rfl rfl inX7 1 (by decide) rfl rfl flX7_9 rfl dX7_begin_30 rfl ?_
    refine J_iconst (v := 2) (pc1 := 34) dX7_begin_33 (by decide) rfl ?_
    refine J_iload_n (i := 2) (q := 2) (pc1 := 35) dX7_begin_34 rfl rfl rfl ?_
    refine J_iast (ix := 2) (pc1 := 36) (by decide) eR1 rfl (by decide : inb 2 1616) dX7_begin_35 rfl ?_
    obtain ⟨μ5, e6, h⟩ := gLet_s h
    rw [← e6]
    clear e6
    refine J_iconst (v := 0) (pc1 := 37) dX7_begin_36 (by decide) rfl ?_
    refine J_istore_n (i := 3) (lv1 := [(3, .int 0), (0, .ref (ad 0 0)), (1, .int a1), (2, .int a2)]) (pc1 := 38) dX7_begin_37 rfl (by decide) rfl rfl ?_
    obtain ⟨j8, ej8, h⟩ := gJon_s h
    have kj8 : ∀ (μ7 : gM), j8 μ7 = some μ' → JR p l e ({ frames := 2, cells := 0, slots := 0, locals := 45 } : Room) s m args below meth c cX7_begin 4 RX7 D tc sa ad sz (none) μ' μ7 60 [(0, .ref (ad 0 0)), (1, .int a1)] [] := by
      intro μ7 h
      rw [ej8] at h
      try dsimp only at h
      refine J_iconst (v := 0) (pc1 := 61) dX7_begin_60 (by decide) rfl ?_
      refine J_istore_n (i := 3) (lv1 := [(3, .int 0), (0, .ref (ad 0 0)), (1, .int a1)]) (pc1 := 62) dX7_begin_61 rfl (by decide) rfl rfl ?_
      obtain ⟨j10, ej10, h⟩ := gJon_s h
      have kj10 : ∀ (μ9 : gM), j10 μ9 = some μ' → JR p l e ({ frames := 2, cells := 0, slots := 0, locals := 45 } : Room) s m args below meth c cX7_begin 4 RX7 D tc sa ad sz (none) μ' μ9 100 [] [] := by
        intro μ9 h
        rw [ej10] at h
        try dsimp only at h
        cases h
        exact J_vret hr hlk dX7_begin_100
      clear ej10
      refine J_sub [1, 2, 0] (lv1 := [(0, .ref (ad 0 0)), (1, .int a1), (3, .int 0)]) rfl ?_
      refine gFx2_s (P := fun x11 μ12 => JR p l e ({ frames := 2, cells := 0, slots := 0, locals := 45 } : Room) s m args below meth c cX7_begin 4 RX7 D tc sa ad sz (none) μ' μ12 62 [(0, .ref (ad 0 0)), (1, .int a1), (3, .int x11)] []) (fun rec13 ihrec13 x11 μ12 h => ?_) _ _ _ h
      try dsimp only at h
      refine J_iload_n (i := 3) (q := 2) (pc1 := 63) dX7_begin_62 rfl rfl rfl ?_
      refine J_iconst (v := 5) (pc1 := 64) dX7_begin_63 (by decide) rfl ?_
      refine J_icmp_ge (tgt := 100) (pc1 := 67) dX7_begin_64 (by decide) (fun q14 => ?_) rfl (fun q14 => ?_)
      · rw [if_pos q14] at h
        refine J_sub [] (lv1 := []) rfl ?_
        exact kj10 _ h
      · rw [if_neg q14] at h
        refine J_aload_n (i := 0) (q := 0) (pc1 := 68) dX7_begin_67 rfl rfl rfl ?_
        refine J_iload_n (i := 3) (q := 2) (pc1 := 69) dX7_begin_68 rfl rfl rfl ?_
        refine J_iconst (v := 0) (pc1 := 70) dX7_begin_69 (by decide) rfl ?_
        refine J_iconst (v := 1) (pc1 := 71) dX7_begin_70 (by decide) rfl ?_
        obtain ⟨μ16, hc15, h⟩ := gBp_s h
        refine J_callV (As := [.int x11, .int 0, .int 1]) (ad := ad) (f := 0) (i := 0) (st := []) (st1 := []) (pc1 := 74) (kX7_set l D tc sa ad hI x11 0 1 μ12 μ16 hc15) wcX7_set wlX7_43 eR0 rfl rfl rfl ⟨rfl, rfl, Nat.le_of_ble_eq_true rfl, Nat.le_of_ble_eq_true rfl⟩ ⟨Nat.zero_le _, Nat.zero_le _⟩ (Nat.le_of_ble_eq_true rfl) dX7_begin_71 rfl rfl ?_
        refine J_aload_n (i := 0) (q := 0) (pc1 := 75) dX7_begin_74 rfl rfl rfl ?_
        refine J_iload_n (i := 3) (q := 2) (pc1 := 76) dX7_begin_75 rfl rfl rfl ?_
        refine J_iconst (v := 3) (pc1 := 77) dX7_begin_76 (by decide) rfl ?_
        refine J_iconst (v := (-1)) (pc1 := 78) dX7_begin_77 (by decide) rfl ?_
        obtain ⟨μ18, hc17, h⟩ := gBp_s h
        refine J_callV (As := [.int x11, .int 3, .int (-1)]) (ad := ad) (f := 0) (i := 0) (st := []) (st1 := []) (pc1 := 81) (kX7_set l D tc sa ad hI x11 3 (-1) μ16 μ18 hc17) wcX7_set wlX7_43 eR0 rfl rfl rfl ⟨rfl, rfl, Nat.le_of_ble_eq_true rfl, Nat.le_of_ble_eq_true rfl⟩ ⟨Nat.zero_le _, Nat.zero_le _⟩ (Nat.le_of_ble_eq_true rfl) dX7_begin_78 rfl rfl ?_
        refine J_aload_n (i := 0) (q := 0) (pc1 := 82) dX7_begin_81 rfl rfl rfl ?_
        refine J_iload_n (i := 3) (q := 2) (pc1 := 83) dX7_begin_82 rfl rfl rfl ?_
        refine J_bipush (v := 11) (pc1 := 85) dX7_begin_83 (by decide) rfl ?_
        refine J_iload_n (i := 1) (q := 1) (pc1 := 86) dX7_begin_85 rfl rfl rfl ?_
        obtain ⟨μ20, hc19, h⟩ := gBp_s h
        refine J_callV (As := [.int x11, .int 11, .int a1]) (ad := ad) (f := 0) (i := 0) (st := []) (st1 := []) (pc1 := 89) (kX7_set l D tc sa ad hI x11 11 a1 μ18 μ20 hc19) wcX7_set wlX7_43 eR0 rfl rfl rfl ⟨rfl, rfl, Nat.le_of_ble_eq_true rfl, Nat.le_of_ble_eq_true rfl⟩ ⟨Nat.zero_le _, Nat.zero_le _⟩ (Nat.le_of_ble_eq_true rfl) dX7_begin_86 rfl rfl ?_
        refine J_aload_n (i := 0) (q := 0) (pc1 := 90) dX7_begin_89 rfl rfl rfl ?_
        refine J_iload_n (i := 3) (q := 2) (pc1 := 91) dX7_begin_90 rfl rfl rfl ?_
        obtain ⟨μ22, hc21, h⟩ := gBp_s h
        refine J_callV (As := [.int x11]) (ad := ad) (f := 0) (i := 0) (st := []) (st1 := []) (pc1 := 94) (kX7_resetTimer l D tc sa ad hI x11 μ20 μ22 hc21) wcX7_resetTimer wlX7_47 eR0 rfl rfl rfl ⟨rfl, rfl, Nat.le_of_ble_eq_true rfl, Nat.le_of_ble_eq_true rfl⟩ ⟨Nat.zero_le _, Nat.zero_le _⟩ (Nat.le_of_ble_eq_true rfl) dX7_begin_91 rfl rfl ?_
        refine J_iinc (i := 3) (q := 2) (v := x11 + 1) (lv1 := [(3, .int (x11 + 1)), (0, .ref (ad 0 0)), (1, .int a1)]) (pc1 := 97) dX7_begin_94 rfl rfl (by decide) rfl rfl ?_
        refine J_goto (tgt := 62) dX7_begin_97 (by decide) ?_
        refine J_sub [1, 2, 0] (lv1 := [(0, .ref (ad 0 0)), (1, .int a1), (3, .int (x11 + 1))]) rfl ?_
        exact ihrec13 _ _ h
    clear ej8
    refine J_sub [1, 2, 0] (lv1 := [(0, .ref (ad 0 0)), (1, .int a1), (3, .int 0)]) rfl ?_
    refine gFx2_s (P := fun x23 μ24 => JR p l e ({ frames := 2, cells := 0, slots := 0, locals := 45 } : Room) s m args below meth c cX7_begin 4 RX7 D tc sa ad sz (none) μ' μ24 38 [(0, .ref (ad 0 0)), (1, .int a1), (3, .int x23)] []) (fun rec25 ihrec25 x23 μ24 h => ?_) _ _ _ h
    try dsimp only at h
    refine J_iload_n (i := 3) (q := 2) (pc1 := 39) dX7_begin_38 rfl rfl rfl ?_
    refine J_bipush (v := 100) (pc1 := 41) dX7_begin_39 (by decide) rfl ?_
    refine J_icmp_ge (tgt := 60) (pc1 := 44) dX7_begin_41 (by decide) (fun q26 => ?_) rfl (fun q26 => ?_)
    · rw [if_pos q26] at h
      refine J_sub [0, 1] (lv1 := [(0, .ref (ad 0 0)), (1, .int a1)]) rfl ?_
      exact kj8 _ h
    · rw [if_neg q26] at h
      refine J_aload_n (i := 0) (q := 0) (pc1 := 45) dX7_begin_44 rfl rfl rfl ?_
      refine J_getR (T := TX7) (f' := 1) (i' := 0) (pc1 := 48) eR0 rfl rfl inX7 1 (by decide) rfl rfl flX7_9 rfl dX7_begin_45 rfl ?_
      refine J_bipush (v := 16) (pc1 := 50) dX7_begin_48 (by decide) rfl ?_
      refine J_iload_n (i := 3) (q := 2) (pc1 := 51) dX7_begin_50 rfl rfl rfl ?_
      refine J_iadd (pc1 := 52) dX7_begin_51 rfl ?_
      refine J_iconst (v := (-1)) (pc1 := 53) dX7_begin_52 (by decide) rfl ?_
      obtain ⟨h27, h⟩ := gChk_s h
      refine J_iast (ix := ((16 + x23).toNatClampNeg)) (pc1 := 54) rfl eR1 rfl h27 dX7_begin_53 rfl ?_
      obtain ⟨μ28, e29, h⟩ := gLet_s h
      rw [← e29]
      clear e29
      refine J_iinc (i := 3) (q := 2) (v := x23 + 1) (lv1 := [(3, .int (x23 + 1)), (0, .ref (ad 0 0)), (1, .int a1)]) (pc1 := 57) dX7_begin_54 rfl rfl (by decide) rfl rfl ?_
      refine J_goto (tgt := 38) dX7_begin_57 (by decide) ?_
      refine J_sub [1, 2, 0] (lv1 := [(0, .ref (ad 0 0)), (1, .int a1), (3, .int (x23 + 1))]) rfl ?_
      exact ihrec25 _ _ h
  clear ej2
  refine J_sub [1, 2, 3, 0] (lv1 := [(0, .ref (ad 0 0)), (1, .int a1), (2, .int a2), (3, .int 0)]) rfl ?_
  refine gFx2_s (P := fun x30 μ31 => JR p l e ({ frames := 2, cells := 0, slots := 0, locals := 45 } : Room) s m args below meth c cX7_begin 4 RX7 D tc sa ad sz (none) μ' μ31 2 [(0, .ref (ad 0 0)), (1, .int a1), (2, .int a2), (3, .int x30)] []) (fun rec32 ihrec32 x30 μ31 h => ?_) _ _ _ h
  try dsimp only at h
  refine J_iload_n (i := 3) (q := 3) (pc1 := 3) dX7_begin_2 rfl rfl rfl ?_
  refine J_sipush (v := 1616) (pc1 := 6) dX7_begin_3 (by decide) rfl ?_
  refine J_icmp_ge (tgt := 22) (pc1 := 9) dX7_begin_6 (by decide) (fun q33 => ?_) rfl (fun q33 => ?_)
  · rw [if_pos q33] at h
    refine J_sub [0, 1, 2] (lv1 := [(0, .ref (ad 0 0)), (1, .int a1), (2, .int a2)]) rfl ?_
    exact kj2 _ h
  · rw [if_neg q33] at h
    refine J_aload_n (i := 0) (q := 0) (pc1 := 10) dX7_begin_9 rfl rfl rfl ?_
    refine J_getR (T := TX7) (f' := 1) (i' := 0) (pc1 := 13) eR0 rfl rfl inX7 1 (by decide) rfl rfl flX7_9 rfl dX7_begin_10 rfl ?_
    refine J_iload_n (i := 3) (q := 3) (pc1 := 14) dX7_begin_13 rfl rfl rfl ?_
    refine J_iconst (v := 0) (pc1 := 15) dX7_begin_14 (by decide) rfl ?_
    obtain ⟨h34, h⟩ := gChk_s h
    refine J_iast (ix := (x30.toNatClampNeg)) (pc1 := 16) rfl eR1 rfl h34 dX7_begin_15 rfl ?_
    obtain ⟨μ35, e36, h⟩ := gLet_s h
    rw [← e36]
    clear e36
    refine J_iinc (i := 3) (q := 3) (v := x30 + 1) (lv1 := [(3, .int (x30 + 1)), (0, .ref (ad 0 0)), (1, .int a1), (2, .int a2)]) (pc1 := 19) dX7_begin_16 rfl rfl (by decide) rfl rfl ?_
    refine J_goto (tgt := 2) dX7_begin_19 (by decide) ?_
    refine J_sub [1, 2, 3, 0] (lv1 := [(0, .ref (ad 0 0)), (1, .int a1), (2, .int a2), (3, .int (x30 + 1))]) rfl ?_
    exact ihrec32 _ _ h
def mX7_start (a1 : Int32) (a2 : Int32) (μ : gM) : Option (Int32 × gM) :=
  gBp (mX7_isGroup a1 μ) fun r2 =>
  gLet (α := Int32) (if r2 = 0 then 1 else 0) fun x3 =>
  gBd (mX7_fails 1 x3 μ) fun r8 μ9 =>
  if r8 = 0 then
    gBp (mX7_begin a1 a2 μ9) fun μ12 =>
    gBp (mX7_countBits a1 μ12) fun r14 =>
    some (r14, μ12)
  else
    some (0, μ9)
set_option maxHeartbeats 4000000 in
set_option maxRecDepth 100000 in
theorem kX7_start (l : Launch) (D : va_G) (tc : Nat → ClassId) (sa : Nat → Nat) (ad : Nat → Nat → Nat) (hI : gI gE_R ad) (a1 : Int32) (a2 : Int32) (μ : gM) (r : Int32) (μ' : gM) (h : mX7_start a1 a2 μ = some (r, μ')) : gMet l yX7_start cX7_start 3 (some .int) ({ frames := 3, cells := 0, slots := 0, locals := 68 } : Room) D gE_R gkd_R tc ad grh_R sa [.ref (ad 0 0), .int a1, .int a2] μ (some (.int r)) μ' := by
  refine gMet_of hI ⟨by decide +kernel, Nat.le_of_ble_eq_true rfl⟩ (fun p e s m args below meth c sz hr hlk => ?_)
  unfold mX7_start at h
  show JR p l e ({ frames := 3, cells := 0, slots := 0, locals := 68 } : Room) s m args below meth c cX7_start 3 RX7 D tc sa ad sz (some (.int r)) μ' μ 0 [(0, .ref (ad 0 0)), (1, .int a1), (2, .int a2)] []
  refine J_aload_n (i := 0) (q := 0) (pc1 := 1) dX7_start_0 rfl rfl rfl ?_
  refine J_iconst (v := 1) (pc1 := 2) dX7_start_1 (by decide) rfl ?_
  refine J_iload_n (i := 1) (q := 1) (pc1 := 3) dX7_start_2 rfl rfl rfl ?_
  obtain ⟨r2, hc1, h⟩ := gBp_s h
  refine J_callS (As := [.int a1]) (st := [.int 1, .ref (ad 0 0)]) (st1 := [.int r2, .int 1, .ref (ad 0 0)]) (pc1 := 6) (kX7_isGroup l D tc sa ad hI a1 μ r2 hc1) wcX7_isGroup wlX7_51 rfl ⟨rfl, rfl, Nat.le_of_ble_eq_true rfl, Nat.le_of_ble_eq_true rfl⟩ ⟨Nat.zero_le _, Nat.zero_le _⟩ (Nat.le_of_ble_eq_true rfl) dX7_start_3 rfl rfl ?_
  obtain ⟨x3, e4, h⟩ := gLet_s h
  have k5 : JR p l e ({ frames := 3, cells := 0, slots := 0, locals := 68 } : Room) s m args below meth c cX7_start 3 RX7 D tc sa ad sz (some (.int r)) μ' μ 14 [(0, .ref (ad 0 0)), (1, .int a1), (2, .int a2)] [.int x3, .int 1, .ref (ad 0 0)] := by
    obtain ⟨r8, μ9, hc7, h⟩ := gBd_s h
    refine J_callV (As := [.int 1, .int x3]) (ad := ad) (f := 0) (i := 0) (st := []) (st1 := [.int r8]) (pc1 := 17) (kX7_fails l D tc sa ad hI 1 x3 μ r8 μ9 hc7) wcX7_fails wlX7_55 eR0 rfl rfl rfl ⟨rfl, rfl, Nat.le_of_ble_eq_true rfl, Nat.le_of_ble_eq_true rfl⟩ ⟨Nat.zero_le _, Nat.zero_le _⟩ (Nat.le_of_ble_eq_true rfl) dX7_start_14 rfl rfl ?_
    refine J_if_eq (tgt := 22) (pc1 := 20) dX7_start_17 (by decide) (fun q10 => ?_) rfl (fun q10 => ?_)
    · rw [if_pos q10] at h
      refine J_aload_n (i := 0) (q := 0) (pc1 := 23) dX7_start_22 rfl rfl rfl ?_
      refine J_iload_n (i := 1) (q := 1) (pc1 := 24) dX7_start_23 rfl rfl rfl ?_
      refine J_iload_n (i := 2) (q := 2) (pc1 := 25) dX7_start_24 rfl rfl rfl ?_
      obtain ⟨μ12, hc11, h⟩ := gBp_s h
      refine J_callV (As := [.int a1, .int a2]) (ad := ad) (f := 0) (i := 0) (st := []) (st1 := []) (pc1 := 28) (kX7_begin l D tc sa ad hI a1 a2 μ9 μ12 hc11) wcX7_begin wlX7_26 eR0 rfl rfl rfl ⟨rfl, rfl, Nat.le_of_ble_eq_true rfl, Nat.le_of_ble_eq_true rfl⟩ ⟨Nat.zero_le _, Nat.zero_le _⟩ (Nat.le_of_ble_eq_true rfl) dX7_start_25 rfl rfl ?_
      refine J_iload_n (i := 1) (q := 1) (pc1 := 29) dX7_start_28 rfl rfl rfl ?_
      obtain ⟨r14, hc13, h⟩ := gBp_s h
      refine J_callS (As := [.int a1]) (st := []) (st1 := [.int r14]) (pc1 := 32) (kX7_countBits l D tc sa ad hI a1 μ12 r14 hc13) wcX7_countBits wlX7_59 rfl ⟨rfl, rfl, Nat.le_of_ble_eq_true rfl, Nat.le_of_ble_eq_true rfl⟩ ⟨Nat.zero_le _, Nat.zero_le _⟩ (Nat.le_of_ble_eq_true rfl) dX7_start_29 rfl rfl ?_
      cases h
      exact J_iret hr hlk dX7_start_32
    · rw [if_neg q10] at h
      refine J_iconst (v := 0) (pc1 := 21) dX7_start_20 (by decide) rfl ?_
      cases h
      exact J_iret hr hlk dX7_start_21
  refine J_if_ne (tgt := 13) (pc1 := 9) dX7_start_6 (by decide) (fun q6 => ?_) rfl (fun q6 => ?_)
  · rw [if_neg q6] at e4
    subst e4
    refine J_iconst (v := 0) (pc1 := 14) dX7_start_13 (by decide) rfl ?_
    exact k5
  · rw [if_pos q6] at e4
    subst e4
    refine J_iconst (v := 1) (pc1 := 10) dX7_start_9 (by decide) rfl ?_
    refine J_goto (tgt := 14) dX7_start_10 (by decide) ?_
    exact k5
def mX7_last (a1 : Int32) (μ : gM) : Option Int32 :=
  gBp (mX7_of a1 7 μ) fun r2 =>
  gBp (mX7_of a1 12 μ) fun r4 =>
  some (r2 + r4)
set_option maxHeartbeats 4000000 in
set_option maxRecDepth 100000 in
theorem kX7_last (l : Launch) (D : va_G) (tc : Nat → ClassId) (sa : Nat → Nat) (ad : Nat → Nat → Nat) (hI : gI gE_R ad) (a1 : Int32) (μ : gM) (r : Int32) (h : mX7_last a1 μ = some r) : gMet l yX7_last cX7_last 2 (some .int) ({ frames := 1, cells := 0, slots := 0, locals := 22 } : Room) D gE_R gkd_R tc ad grh_R sa [.ref (ad 0 0), .int a1] μ (some (.int r)) μ := by
  refine gMet_of hI ⟨by decide +kernel, Nat.le_of_ble_eq_true rfl⟩ (fun p e s m args below meth c sz hr hlk => ?_)
  unfold mX7_last at h
  show JR p l e ({ frames := 1, cells := 0, slots := 0, locals := 22 } : Room) s m args below meth c cX7_last 2 RX7 D tc sa ad sz (some (.int r)) μ μ 0 [(0, .ref (ad 0 0)), (1, .int a1)] []
  refine J_aload_n (i := 0) (q := 0) (pc1 := 1) dX7_last_0 rfl rfl rfl ?_
  refine J_iload_n (i := 1) (q := 1) (pc1 := 2) dX7_last_1 rfl rfl rfl ?_
  refine J_bipush (v := 7) (pc1 := 4) dX7_last_2 (by decide) rfl ?_
  obtain ⟨r2, hc1, h⟩ := gBp_s h
  refine J_callV (As := [.int a1, .int 7]) (ad := ad) (f := 0) (i := 0) (st := []) (st1 := [.int r2]) (pc1 := 7) (kX7_of l D tc sa ad hI a1 7 μ r2 hc1) wcX7_of wlX7_38 eR0 rfl rfl rfl ⟨rfl, rfl, Nat.le_of_ble_eq_true rfl, Nat.le_of_ble_eq_true rfl⟩ ⟨Nat.zero_le _, Nat.zero_le _⟩ (Nat.le_of_ble_eq_true rfl) dX7_last_4 rfl rfl ?_
  refine J_aload_n (i := 0) (q := 0) (pc1 := 8) dX7_last_7 rfl rfl rfl ?_
  refine J_iload_n (i := 1) (q := 1) (pc1 := 9) dX7_last_8 rfl rfl rfl ?_
  refine J_bipush (v := 12) (pc1 := 11) dX7_last_9 (by decide) rfl ?_
  obtain ⟨r4, hc3, h⟩ := gBp_s h
  refine J_callV (As := [.int a1, .int 12]) (ad := ad) (f := 0) (i := 0) (st := [.int r2]) (st1 := [.int r4, .int r2]) (pc1 := 14) (kX7_of l D tc sa ad hI a1 12 μ r4 hc3) wcX7_of wlX7_38 eR0 rfl rfl rfl ⟨rfl, rfl, Nat.le_of_ble_eq_true rfl, Nat.le_of_ble_eq_true rfl⟩ ⟨Nat.zero_le _, Nat.zero_le _⟩ (Nat.le_of_ble_eq_true rfl) dX7_last_11 rfl rfl ?_
  refine J_iadd (pc1 := 15) dX7_last_14 rfl ?_
  cases h
  exact J_iret hr hlk dX7_last_15
def mX7_entryOf (a1 : Int32) (a2 : Int32) (a3 : Int32) (μ : gM) : Option Int32 :=
  gBp (mX7_of a1 7 μ) fun r2 =>
  gBp (mX7_of a1 ((28 + (3 * ((a2 - r2) - 1))) + a3) μ) fun r4 =>
  some r4
set_option maxHeartbeats 4000000 in
set_option maxRecDepth 100000 in
theorem kX7_entryOf (l : Launch) (D : va_G) (tc : Nat → ClassId) (sa : Nat → Nat) (ad : Nat → Nat → Nat) (hI : gI gE_R ad) (a1 : Int32) (a2 : Int32) (a3 : Int32) (μ : gM) (r : Int32) (h : mX7_entryOf a1 a2 a3 μ = some r) : gMet l yX7_entryOf cX7_entryOf 4 (some .int) ({ frames := 1, cells := 0, slots := 0, locals := 22 } : Room) D gE_R gkd_R tc ad grh_R sa [.ref (ad 0 0), .int a1, .int a2, .int a3] μ (some (.int r)) μ := by
  refine gMet_of hI ⟨by decide +kernel, Nat.le_of_ble_eq_true rfl⟩ (fun p e s m args below meth c sz hr hlk => ?_)
  unfold mX7_entryOf at h
  show JR p l e ({ frames := 1, cells := 0, slots := 0, locals := 22 } : Room) s m args below meth c cX7_entryOf 4 RX7 D tc sa ad sz (some (.int r)) μ μ 0 [(0, .ref (ad 0 0)), (1, .int a1), (2, .int a2), (3, .int a3)] []
  refine J_aload_n (i := 0) (q := 0) (pc1 := 1) dX7_entryOf_0 rfl rfl rfl ?_
  refine J_iload_n (i := 1) (q := 1) (pc1 := 2) dX7_entryOf_1 rfl rfl rfl ?_
  refine J_bipush (v := 28) (pc1 := 4) dX7_entryOf_2 (by decide) rfl ?_
  refine J_iconst (v := 3) (pc1 := 5) dX7_entryOf_4 (by decide) rfl ?_
  refine J_iload_n (i := 2) (q := 2) (pc1 := 6) dX7_entryOf_5 rfl rfl rfl ?_
  refine J_aload_n (i := 0) (q := 0) (pc1 := 7) dX7_entryOf_6 rfl rfl rfl ?_
  refine J_iload_n (i := 1) (q := 1) (pc1 := 8) dX7_entryOf_7 rfl rfl rfl ?_
  refine J_bipush (v := 7) (pc1 := 10) dX7_entryOf_8 (by decide) rfl ?_
  obtain ⟨r2, hc1, h⟩ := gBp_s h
  refine J_callV (As := [.int a1, .int 7]) (ad := ad) (f := 0) (i := 0) (st := [.int a2, .int 3, .int 28, .int a1, .ref (ad 0 0)]) (st1 := [.int r2, .int a2, .int 3, .int 28, .int a1, .ref (ad 0 0)]) (pc1 := 13) (kX7_of l D tc sa ad hI a1 7 μ r2 hc1) wcX7_of wlX7_38 eR0 rfl rfl rfl ⟨rfl, rfl, Nat.le_of_ble_eq_true rfl, Nat.le_of_ble_eq_true rfl⟩ ⟨Nat.zero_le _, Nat.zero_le _⟩ (Nat.le_of_ble_eq_true rfl) dX7_entryOf_10 rfl rfl ?_
  refine J_isub (pc1 := 14) dX7_entryOf_13 rfl ?_
  refine J_iconst (v := 1) (pc1 := 15) dX7_entryOf_14 (by decide) rfl ?_
  refine J_isub (pc1 := 16) dX7_entryOf_15 rfl ?_
  refine J_imul (pc1 := 17) dX7_entryOf_16 rfl ?_
  refine J_iadd (pc1 := 18) dX7_entryOf_17 rfl ?_
  refine J_iload_n (i := 3) (q := 3) (pc1 := 19) dX7_entryOf_18 rfl rfl rfl ?_
  refine J_iadd (pc1 := 20) dX7_entryOf_19 rfl ?_
  obtain ⟨r4, hc3, h⟩ := gBp_s h
  refine J_callV (As := [.int a1, .int ((28 + (3 * ((a2 - r2) - 1))) + a3)]) (ad := ad) (f := 0) (i := 0) (st := []) (st1 := [.int r4]) (pc1 := 23) (kX7_of l D tc sa ad hI a1 ((28 + (3 * ((a2 - r2) - 1))) + a3) μ r4 hc3) wcX7_of wlX7_38 eR0 rfl rfl rfl ⟨rfl, rfl, Nat.le_of_ble_eq_true rfl, Nat.le_of_ble_eq_true rfl⟩ ⟨Nat.zero_le _, Nat.zero_le _⟩ (Nat.le_of_ble_eq_true rfl) dX7_entryOf_20 rfl rfl ?_
  cases h
  exact J_iret hr hlk dX7_entryOf_23
def mX7_termAt (a1 : Int32) (a2 : Int32) (μ : gM) : Option Int32 :=
  gBp (mX7_of a1 7 μ) fun r2 =>
  if a2 = r2 then
    gBp (mX7_of a1 8 μ) fun r7 =>
    some r7
  else
    gBp (mX7_entryOf a1 a2 0 μ) fun r5 =>
    some r5
set_option maxHeartbeats 4000000 in
set_option maxRecDepth 100000 in
theorem kX7_termAt (l : Launch) (D : va_G) (tc : Nat → ClassId) (sa : Nat → Nat) (ad : Nat → Nat → Nat) (hI : gI gE_R ad) (a1 : Int32) (a2 : Int32) (μ : gM) (r : Int32) (h : mX7_termAt a1 a2 μ = some r) : gMet l yX7_termAt cX7_termAt 3 (some .int) ({ frames := 2, cells := 0, slots := 0, locals := 45 } : Room) D gE_R gkd_R tc ad grh_R sa [.ref (ad 0 0), .int a1, .int a2] μ (some (.int r)) μ := by
  refine gMet_of hI ⟨by decide +kernel, Nat.le_of_ble_eq_true rfl⟩ (fun p e s m args below meth c sz hr hlk => ?_)
  unfold mX7_termAt at h
  show JR p l e ({ frames := 2, cells := 0, slots := 0, locals := 45 } : Room) s m args below meth c cX7_termAt 3 RX7 D tc sa ad sz (some (.int r)) μ μ 0 [(0, .ref (ad 0 0)), (1, .int a1), (2, .int a2)] []
  refine J_iload_n (i := 2) (q := 2) (pc1 := 1) dX7_termAt_0 rfl rfl rfl ?_
  refine J_aload_n (i := 0) (q := 0) (pc1 := 2) dX7_termAt_1 rfl rfl rfl ?_
  refine J_iload_n (i := 1) (q := 1) (pc1 := 3) dX7_termAt_2 rfl rfl rfl ?_
  refine J_bipush (v := 7) (pc1 := 5) dX7_termAt_3 (by decide) rfl ?_
  obtain ⟨r2, hc1, h⟩ := gBp_s h
  refine J_callV (As := [.int a1, .int 7]) (ad := ad) (f := 0) (i := 0) (st := [.int a2]) (st1 := [.int r2, .int a2]) (pc1 := 8) (kX7_of l D tc sa ad hI a1 7 μ r2 hc1) wcX7_of wlX7_38 eR0 rfl rfl rfl ⟨rfl, rfl, Nat.le_of_ble_eq_true rfl, Nat.le_of_ble_eq_true rfl⟩ ⟨Nat.zero_le _, Nat.zero_le _⟩ (Nat.le_of_ble_eq_true rfl) dX7_termAt_5 rfl rfl ?_
  refine J_icmp_ne (tgt := 21) (pc1 := 11) dX7_termAt_8 (by decide) (fun q3 => ?_) rfl (fun q3 => ?_)
  · rw [if_neg q3] at h
    refine J_aload_n (i := 0) (q := 0) (pc1 := 22) dX7_termAt_21 rfl rfl rfl ?_
    refine J_iload_n (i := 1) (q := 1) (pc1 := 23) dX7_termAt_22 rfl rfl rfl ?_
    refine J_iload_n (i := 2) (q := 2) (pc1 := 24) dX7_termAt_23 rfl rfl rfl ?_
    refine J_iconst (v := 0) (pc1 := 25) dX7_termAt_24 (by decide) rfl ?_
    obtain ⟨r5, hc4, h⟩ := gBp_s h
    refine J_callV (As := [.int a1, .int a2, .int 0]) (ad := ad) (f := 0) (i := 0) (st := []) (st1 := [.int r5]) (pc1 := 28) (kX7_entryOf l D tc sa ad hI a1 a2 0 μ r5 hc4) wcX7_entryOf wlX7_63 eR0 rfl rfl rfl ⟨rfl, rfl, Nat.le_of_ble_eq_true rfl, Nat.le_of_ble_eq_true rfl⟩ ⟨Nat.zero_le _, Nat.zero_le _⟩ (Nat.le_of_ble_eq_true rfl) dX7_termAt_25 rfl rfl ?_
    cases h
    exact J_iret hr hlk dX7_termAt_28
  · rw [if_pos q3] at h
    refine J_aload_n (i := 0) (q := 0) (pc1 := 12) dX7_termAt_11 rfl rfl rfl ?_
    refine J_iload_n (i := 1) (q := 1) (pc1 := 13) dX7_termAt_12 rfl rfl rfl ?_
    refine J_bipush (v := 8) (pc1 := 15) dX7_termAt_13 (by decide) rfl ?_
    obtain ⟨r7, hc6, h⟩ := gBp_s h
    refine J_callV (As := [.int a1, .int 8]) (ad := ad) (f := 0) (i := 0) (st := []) (st1 := [.int r7]) (pc1 := 18) (kX7_of l D tc sa ad hI a1 8 μ r7 hc6) wcX7_of wlX7_38 eR0 rfl rfl rfl ⟨rfl, rfl, Nat.le_of_ble_eq_true rfl, Nat.le_of_ble_eq_true rfl⟩ ⟨Nat.zero_le _, Nat.zero_le _⟩ (Nat.le_of_ble_eq_true rfl) dX7_termAt_15 rfl rfl ?_
    refine J_goto (tgt := 28) dX7_termAt_18 (by decide) ?_
    cases h
    exact J_iret hr hlk dX7_termAt_28
def mX7_add (a1 : Int32) (a2 : Int32) (a3 : Int32) (a4 : Int32) (μ : gM) : Option gM :=
  gBp (mX7_of a1 12 μ) fun r2 =>
  gLet (α := Int32) (28 + (3 * r2)) fun x3 =>
  gBp (mX7_set a1 x3 a2 μ) fun μ8 =>
  gBp (mX7_set a1 (x3 + 1) a3 μ8) fun μ10 =>
  gBp (mX7_set a1 (x3 + 2) a4 μ10) fun μ12 =>
  gBp (mX7_of a1 12 μ12) fun r14 =>
  gBp (mX7_set a1 12 (r14 + 1) μ12) fun μ16 =>
  some μ16
set_option maxHeartbeats 4000000 in
set_option maxRecDepth 100000 in
theorem kX7_add (l : Launch) (D : va_G) (tc : Nat → ClassId) (sa : Nat → Nat) (ad : Nat → Nat → Nat) (hI : gI gE_R ad) (a1 : Int32) (a2 : Int32) (a3 : Int32) (a4 : Int32) (μ : gM) (μ' : gM) (h : mX7_add a1 a2 a3 a4 μ = some μ') : gMet l yX7_add cX7_add 6 (none) ({ frames := 1, cells := 0, slots := 0, locals := 23 } : Room) D gE_R gkd_R tc ad grh_R sa [.ref (ad 0 0), .int a1, .int a2, .int a3, .int a4] μ (none) μ' := by
  refine gMet_of hI ⟨by decide +kernel, Nat.le_of_ble_eq_true rfl⟩ (fun p e s m args below meth c sz hr hlk => ?_)
  unfold mX7_add at h
  show JR p l e ({ frames := 1, cells := 0, slots := 0, locals := 23 } : Room) s m args below meth c cX7_add 6 RX7 D tc sa ad sz (none) μ' μ 0 [(0, .ref (ad 0 0)), (1, .int a1), (2, .int a2), (3, .int a3), (4, .int a4)] []
  refine J_bipush (v := 28) (pc1 := 2) dX7_add_0 (by decide) rfl ?_
  refine J_iconst (v := 3) (pc1 := 3) dX7_add_2 (by decide) rfl ?_
  refine J_aload_n (i := 0) (q := 0) (pc1 := 4) dX7_add_3 rfl rfl rfl ?_
  refine J_iload_n (i := 1) (q := 1) (pc1 := 5) dX7_add_4 rfl rfl rfl ?_
  refine J_bipush (v := 12) (pc1 := 7) dX7_add_5 (by decide) rfl ?_
  obtain ⟨r2, hc1, h⟩ := gBp_s h
  refine J_callV (As := [.int a1, .int 12]) (ad := ad) (f := 0) (i := 0) (st := [.int 3, .int 28]) (st1 := [.int r2, .int 3, .int 28]) (pc1 := 10) (kX7_of l D tc sa ad hI a1 12 μ r2 hc1) wcX7_of wlX7_38 eR0 rfl rfl rfl ⟨rfl, rfl, Nat.le_of_ble_eq_true rfl, Nat.le_of_ble_eq_true rfl⟩ ⟨Nat.zero_le _, Nat.zero_le _⟩ (Nat.le_of_ble_eq_true rfl) dX7_add_7 rfl rfl ?_
  refine J_imul (pc1 := 11) dX7_add_10 rfl ?_
  refine J_iadd (pc1 := 12) dX7_add_11 rfl ?_
  obtain ⟨x3, e5, h⟩ := gLet_s h
  refine J_top (fun y4 e6 => ?_)
  have e6x : x3 = y4 := (e6.trans e5.symm).symm
  subst e6x
  refine J_istore (i := 5) (lv1 := [(5, .int x3), (0, .ref (ad 0 0)), (1, .int a1), (2, .int a2), (3, .int a3), (4, .int a4)]) (pc1 := 14) dX7_add_12 (by decide) rfl rfl ?_
  refine J_aload_n (i := 0) (q := 1) (pc1 := 15) dX7_add_14 rfl rfl rfl ?_
  refine J_iload_n (i := 1) (q := 2) (pc1 := 16) dX7_add_15 rfl rfl rfl ?_
  refine J_iload (i := 5) (q := 0) (pc1 := 18) dX7_add_16 rfl rfl ?_
  refine J_iload_n (i := 2) (q := 3) (pc1 := 19) dX7_add_18 rfl rfl rfl ?_
  obtain ⟨μ8, hc7, h⟩ := gBp_s h
  refine J_callV (As := [.int a1, .int x3, .int a2]) (ad := ad) (f := 0) (i := 0) (st := []) (st1 := []) (pc1 := 22) (kX7_set l D tc sa ad hI a1 x3 a2 μ μ8 hc7) wcX7_set wlX7_43 eR0 rfl rfl rfl ⟨rfl, rfl, Nat.le_of_ble_eq_true rfl, Nat.le_of_ble_eq_true rfl⟩ ⟨Nat.zero_le _, Nat.zero_le _⟩ (Nat.le_of_ble_eq_true rfl) dX7_add_19 rfl rfl ?_
  refine J_aload_n (i := 0) (q := 1) (pc1 := 23) dX7_add_22 rfl rfl rfl ?_
  refine J_iload_n (i := 1) (q := 2) (pc1 := 24) dX7_add_23 rfl rfl rfl ?_
  refine J_iload (i := 5) (q := 0) (pc1 := 26) dX7_add_24 rfl rfl ?_
  refine J_iconst (v := 1) (pc1 := 27) dX7_add_26 (by decide) rfl ?_
  refine J_iadd (pc1 := 28) dX7_add_27 rfl ?_
  refine J_iload_n (i := 3) (q := 4) (pc1 := 29) dX7_add_28 rfl rfl rfl ?_
  obtain ⟨μ10, hc9, h⟩ := gBp_s h
  refine J_callV (As := [.int a1, .int (x3 + 1), .int a3]) (ad := ad) (f := 0) (i := 0) (st := []) (st1 := []) (pc1 := 32) (kX7_set l D tc sa ad hI a1 (x3 + 1) a3 μ8 μ10 hc9) wcX7_set wlX7_43 eR0 rfl rfl rfl ⟨rfl, rfl, Nat.le_of_ble_eq_true rfl, Nat.le_of_ble_eq_true rfl⟩ ⟨Nat.zero_le _, Nat.zero_le _⟩ (Nat.le_of_ble_eq_true rfl) dX7_add_29 rfl rfl ?_
  refine J_aload_n (i := 0) (q := 1) (pc1 := 33) dX7_add_32 rfl rfl rfl ?_
  refine J_iload_n (i := 1) (q := 2) (pc1 := 34) dX7_add_33 rfl rfl rfl ?_
  refine J_iload (i := 5) (q := 0) (pc1 := 36) dX7_add_34 rfl rfl ?_
  refine J_iconst (v := 2) (pc1 := 37) dX7_add_36 (by decide) rfl ?_
  refine J_iadd (pc1 := 38) dX7_add_37 rfl ?_
  refine J_iload (i := 4) (q := 5) (pc1 := 40) dX7_add_38 rfl rfl ?_
  obtain ⟨μ12, hc11, h⟩ := gBp_s h
  refine J_callV (As := [.int a1, .int (x3 + 2), .int a4]) (ad := ad) (f := 0) (i := 0) (st := []) (st1 := []) (pc1 := 43) (kX7_set l D tc sa ad hI a1 (x3 + 2) a4 μ10 μ12 hc11) wcX7_set wlX7_43 eR0 rfl rfl rfl ⟨rfl, rfl, Nat.le_of_ble_eq_true rfl, Nat.le_of_ble_eq_true rfl⟩ ⟨Nat.zero_le _, Nat.zero_le _⟩ (Nat.le_of_ble_eq_true rfl) dX7_add_40 rfl rfl ?_
  refine J_aload_n (i := 0) (q := 1) (pc1 := 44) dX7_add_43 rfl rfl rfl ?_
  refine J_iload_n (i := 1) (q := 2) (pc1 := 45) dX7_add_44 rfl rfl rfl ?_
  refine J_bipush (v := 12) (pc1 := 47) dX7_add_45 (by decide) rfl ?_
  refine J_aload_n (i := 0) (q := 1) (pc1 := 48) dX7_add_47 rfl rfl rfl ?_
  refine J_iload_n (i := 1) (q := 2) (pc1 := 49) dX7_add_48 rfl rfl rfl ?_
  refine J_bipush (v := 12) (pc1 := 51) dX7_add_49 (by decide) rfl ?_
  obtain ⟨r14, hc13, h⟩ := gBp_s h
  refine J_callV (As := [.int a1, .int 12]) (ad := ad) (f := 0) (i := 0) (st := [.int 12, .int a1, .ref (ad 0 0)]) (st1 := [.int r14, .int 12, .int a1, .ref (ad 0 0)]) (pc1 := 54) (kX7_of l D tc sa ad hI a1 12 μ12 r14 hc13) wcX7_of wlX7_38 eR0 rfl rfl rfl ⟨rfl, rfl, Nat.le_of_ble_eq_true rfl, Nat.le_of_ble_eq_true rfl⟩ ⟨Nat.zero_le _, Nat.zero_le _⟩ (Nat.le_of_ble_eq_true rfl) dX7_add_51 rfl rfl ?_
  refine J_iconst (v := 1) (pc1 := 55) dX7_add_54 (by decide) rfl ?_
  refine J_iadd (pc1 := 56) dX7_add_55 rfl ?_
  obtain ⟨μ16, hc15, h⟩ := gBp_s h
  refine J_callV (As := [.int a1, .int 12, .int (r14 + 1)]) (ad := ad) (f := 0) (i := 0) (st := []) (st1 := []) (pc1 := 59) (kX7_set l D tc sa ad hI a1 12 (r14 + 1) μ12 μ16 hc15) wcX7_set wlX7_43 eR0 rfl rfl rfl ⟨rfl, rfl, Nat.le_of_ble_eq_true rfl, Nat.le_of_ble_eq_true rfl⟩ ⟨Nat.zero_le _, Nat.zero_le _⟩ (Nat.le_of_ble_eq_true rfl) dX7_add_56 rfl rfl ?_
  cases h
  exact J_vret hr hlk dX7_add_59
def mX7_configurationAt (a1 : Int32) (a2 : Int32) (μ : gM) : Option Int32 :=
  gBp (mX7_of a1 7 μ) fun r2 =>
  gLet (α := Int32) (r2 + 1) fun x3 =>
  gJon (fun (x7 : Int32) =>
      some x7) fun j8 =>
  gFx2 (fun rec11 (x9 : Int32) (x10 : Int32) =>
      if a2 < x10 then
        j8 x9
      else
        gBp (mX7_entryOf a1 x10 1 μ) fun r14 =>
        if r14 = 1 then
          rec11 x10 (x10 + 1)
        else
          gLet (α := Int32) (if r14 = 2 then x10 else x9) fun x16 =>
          rec11 x16 (x10 + 1)) 1000000 r2 x3
set_option maxHeartbeats 4000000 in
set_option maxRecDepth 100000 in
theorem kX7_configurationAt (l : Launch) (D : va_G) (tc : Nat → ClassId) (sa : Nat → Nat) (ad : Nat → Nat → Nat) (hI : gI gE_R ad) (a1 : Int32) (a2 : Int32) (μ : gM) (r : Int32) (h : mX7_configurationAt a1 a2 μ = some r) : gMet l yX7_configurationAt cX7_configurationAt 6 (some .int) ({ frames := 2, cells := 0, slots := 0, locals := 45 } : Room) D gE_R gkd_R tc ad grh_R sa [.ref (ad 0 0), .int a1, .int a2] μ (some (.int r)) μ := by
  refine gMet_of hI ⟨by decide +kernel, Nat.le_of_ble_eq_true rfl⟩ (fun p e s m args below meth c sz hr hlk => ?_)
  unfold mX7_configurationAt at h
  show JR p l e ({ frames := 2, cells := 0, slots := 0, locals := 45 } : Room) s m args below meth c cX7_configurationAt 6 RX7 D tc sa ad sz (some (.int r)) μ μ 0 [(0, .ref (ad 0 0)), (1, .int a1), (2, .int a2)] []
  refine J_aload_n (i := 0) (q := 0) (pc1 := 1) dX7_configurationAt_0 rfl rfl rfl ?_
  refine J_iload_n (i := 1) (q := 1) (pc1 := 2) dX7_configurationAt_1 rfl rfl rfl ?_
  refine J_bipush (v := 7) (pc1 := 4) dX7_configurationAt_2 (by decide) rfl ?_
  obtain ⟨r2, hc1, h⟩ := gBp_s h
  refine J_callV (As := [.int a1, .int 7]) (ad := ad) (f := 0) (i := 0) (st := []) (st1 := [.int r2]) (pc1 := 7) (kX7_of l D tc sa ad hI a1 7 μ r2 hc1) wcX7_of wlX7_38 eR0 rfl rfl rfl ⟨rfl, rfl, Nat.le_of_ble_eq_true rfl, Nat.le_of_ble_eq_true rfl⟩ ⟨Nat.zero_le _, Nat.zero_le _⟩ (Nat.le_of_ble_eq_true rfl) dX7_configurationAt_4 rfl rfl ?_
  refine J_istore_n (i := 3) (lv1 := [(3, .int r2), (0, .ref (ad 0 0)), (1, .int a1), (2, .int a2)]) (pc1 := 8) dX7_configurationAt_7 rfl (by decide) rfl rfl ?_
  refine J_iload_n (i := 3) (q := 0) (pc1 := 9) dX7_configurationAt_8 rfl rfl rfl ?_
  refine J_iconst (v := 1) (pc1 := 10) dX7_configurationAt_9 (by decide) rfl ?_
  refine J_iadd (pc1 := 11) dX7_configurationAt_10 rfl ?_
  obtain ⟨x3, e5, h⟩ := gLet_s h
  refine J_top (fun y4 e6 => ?_)
  have e6x : x3 = y4 := (e6.trans e5.symm).symm
  subst e6x
  refine J_istore (i := 4) (lv1 := [(4, .int x3), (3, .int r2), (0, .ref (ad 0 0)), (1, .int a1), (2, .int a2)]) (pc1 := 13) dX7_configurationAt_11 (by decide) rfl rfl ?_
  obtain ⟨j8, ej8, h⟩ := gJon_s h
  have kj8 : ∀ (x7 : Int32), j8 x7 = some r → JR p l e ({ frames := 2, cells := 0, slots := 0, locals := 45 } : Room) s m args below meth c cX7_configurationAt 6 RX7 D tc sa ad sz (some (.int r)) μ μ 54 [(3, .int x7)] [] := by
    intro x7 h
    rw [ej8] at h
    try dsimp only at h
    refine J_iload_n (i := 3) (q := 0) (pc1 := 55) dX7_configurationAt_54 rfl rfl rfl ?_
    cases h
    exact J_iret hr hlk dX7_configurationAt_55
  clear ej8
  refine J_sub [2, 3, 4, 1, 0] (lv1 := [(0, .ref (ad 0 0)), (1, .int a1), (2, .int a2), (3, .int r2), (4, .int x3)]) rfl ?_
  refine gFx2_s (P := fun x9 x10 => JR p l e ({ frames := 2, cells := 0, slots := 0, locals := 45 } : Room) s m args below meth c cX7_configurationAt 6 RX7 D tc sa ad sz (some (.int r)) μ μ 13 [(0, .ref (ad 0 0)), (1, .int a1), (2, .int a2), (3, .int x9), (4, .int x10)] []) (fun rec11 ihrec11 x9 x10 h => ?_) _ _ _ h
  try dsimp only at h
  refine J_iload (i := 4) (q := 4) (pc1 := 15) dX7_configurationAt_13 rfl rfl ?_
  refine J_iload_n (i := 2) (q := 2) (pc1 := 16) dX7_configurationAt_15 rfl rfl rfl ?_
  refine J_icmp_gt (tgt := 54) (pc1 := 19) dX7_configurationAt_16 (by decide) (fun q12 => ?_) rfl (fun q12 => ?_)
  · rw [if_pos q12] at h
    refine J_sub [3] (lv1 := [(3, .int x9)]) rfl ?_
    exact kj8 _ h
  · rw [if_neg q12] at h
    refine J_aload_n (i := 0) (q := 0) (pc1 := 20) dX7_configurationAt_19 rfl rfl rfl ?_
    refine J_iload_n (i := 1) (q := 1) (pc1 := 21) dX7_configurationAt_20 rfl rfl rfl ?_
    refine J_iload (i := 4) (q := 4) (pc1 := 23) dX7_configurationAt_21 rfl rfl ?_
    refine J_iconst (v := 1) (pc1 := 24) dX7_configurationAt_23 (by decide) rfl ?_
    obtain ⟨r14, hc13, h⟩ := gBp_s h
    refine J_callV (As := [.int a1, .int x10, .int 1]) (ad := ad) (f := 0) (i := 0) (st := []) (st1 := [.int r14]) (pc1 := 27) (kX7_entryOf l D tc sa ad hI a1 x10 1 μ r14 hc13) wcX7_entryOf wlX7_63 eR0 rfl rfl rfl ⟨rfl, rfl, Nat.le_of_ble_eq_true rfl, Nat.le_of_ble_eq_true rfl⟩ ⟨Nat.zero_le _, Nat.zero_le _⟩ (Nat.le_of_ble_eq_true rfl) dX7_configurationAt_24 rfl rfl ?_
    refine J_istore (i := 5) (lv1 := [(5, .int r14), (0, .ref (ad 0 0)), (1, .int a1), (2, .int a2), (3, .int x9), (4, .int x10)]) (pc1 := 29) dX7_configurationAt_27 (by decide) rfl rfl ?_
    refine J_iload (i := 5) (q := 0) (pc1 := 31) dX7_configurationAt_29 rfl rfl ?_
    refine J_iconst (v := 1) (pc1 := 32) dX7_configurationAt_31 (by decide) rfl ?_
    refine J_icmp_eq (tgt := 41) (pc1 := 35) dX7_configurationAt_32 (by decide) (fun q15 => ?_) rfl (fun q15 => ?_)
    · rw [if_pos q15] at h
      refine J_iload (i := 4) (q := 5) (pc1 := 43) dX7_configurationAt_41 rfl rfl ?_
      refine J_goto (tgt := 47) dX7_configurationAt_43 (by decide) ?_
      refine J_istore_n (i := 3) (lv1 := [(3, .int x10), (5, .int r14), (0, .ref (ad 0 0)), (1, .int a1), (2, .int a2), (4, .int x10)]) (pc1 := 48) dX7_configurationAt_47 rfl (by decide) rfl rfl ?_
      refine J_iinc (i := 4) (q := 5) (v := x10 + 1) (lv1 := [(4, .int (x10 + 1)), (3, .int x10), (5, .int r14), (0, .ref (ad 0 0)), (1, .int a1), (2, .int a2)]) (pc1 := 51) dX7_configurationAt_48 rfl rfl (by decide) rfl rfl ?_
      refine J_goto (tgt := 13) dX7_configurationAt_51 (by decide) ?_
      refine J_sub [3, 4, 5, 1, 0] (lv1 := [(0, .ref (ad 0 0)), (1, .int a1), (2, .int a2), (3, .int x10), (4, .int (x10 + 1))]) rfl ?_
      exact ihrec11 _ _ h
    · rw [if_neg q15] at h
      refine J_iload (i := 5) (q := 0) (pc1 := 37) dX7_configurationAt_35 rfl rfl ?_
      refine J_iconst (v := 2) (pc1 := 38) dX7_configurationAt_37 (by decide) rfl ?_
      obtain ⟨x16, e17, h⟩ := gLet_s h
      have k18 : JR p l e ({ frames := 2, cells := 0, slots := 0, locals := 45 } : Room) s m args below meth c cX7_configurationAt 6 RX7 D tc sa ad sz (some (.int r)) μ μ 47 [(5, .int r14), (0, .ref (ad 0 0)), (1, .int a1), (2, .int a2), (3, .int x9), (4, .int x10)] [.int x16] := by
        refine J_istore_n (i := 3) (lv1 := [(3, .int x16), (5, .int r14), (0, .ref (ad 0 0)), (1, .int a1), (2, .int a2), (4, .int x10)]) (pc1 := 48) dX7_configurationAt_47 rfl (by decide) rfl rfl ?_
        refine J_iinc (i := 4) (q := 5) (v := x10 + 1) (lv1 := [(4, .int (x10 + 1)), (3, .int x16), (5, .int r14), (0, .ref (ad 0 0)), (1, .int a1), (2, .int a2)]) (pc1 := 51) dX7_configurationAt_48 rfl rfl (by decide) rfl rfl ?_
        refine J_goto (tgt := 13) dX7_configurationAt_51 (by decide) ?_
        refine J_sub [3, 4, 5, 1, 0] (lv1 := [(0, .ref (ad 0 0)), (1, .int a1), (2, .int a2), (3, .int x16), (4, .int (x10 + 1))]) rfl ?_
        exact ihrec11 _ _ h
      refine J_icmp_ne (tgt := 46) (pc1 := 41) dX7_configurationAt_38 (by decide) (fun q19 => ?_) rfl (fun q19 => ?_)
      · rw [if_neg q19] at e17
        subst e17
        refine J_iload_n (i := 3) (q := 4) (pc1 := 47) dX7_configurationAt_46 rfl rfl rfl ?_
        exact k18
      · rw [if_pos q19] at e17
        subst e17
        refine J_iload (i := 4) (q := 5) (pc1 := 43) dX7_configurationAt_41 rfl rfl ?_
        refine J_goto (tgt := 47) dX7_configurationAt_43 (by decide) ?_
        exact k18
def mX7_oldOf (a1 : Int32) (a2 : Int32) (μ : gM) : Option Int32 :=
  gBp (mX7_of a1 7 μ) fun r2 =>
  if a2 = r2 then
    gBp (mX7_of a1 10 μ) fun r10 =>
    some r10
  else
    gBp (mX7_entryOf a1 a2 1 μ) fun r5 =>
    if r5 = 1 then
      gBp (mX7_entryOf a1 a2 2 μ) fun r8 =>
      some (r8 >>> (5 &&& 31))
    else
      some 0
set_option maxHeartbeats 4000000 in
set_option maxRecDepth 100000 in
theorem kX7_oldOf (l : Launch) (D : va_G) (tc : Nat → ClassId) (sa : Nat → Nat) (ad : Nat → Nat → Nat) (hI : gI gE_R ad) (a1 : Int32) (a2 : Int32) (μ : gM) (r : Int32) (h : mX7_oldOf a1 a2 μ = some r) : gMet l yX7_oldOf cX7_oldOf 3 (some .int) ({ frames := 2, cells := 0, slots := 0, locals := 45 } : Room) D gE_R gkd_R tc ad grh_R sa [.ref (ad 0 0), .int a1, .int a2] μ (some (.int r)) μ := by
  refine gMet_of hI ⟨by decide +kernel, Nat.le_of_ble_eq_true rfl⟩ (fun p e s m args below meth c sz hr hlk => ?_)
  unfold mX7_oldOf at h
  show JR p l e ({ frames := 2, cells := 0, slots := 0, locals := 45 } : Room) s m args below meth c cX7_oldOf 3 RX7 D tc sa ad sz (some (.int r)) μ μ 0 [(0, .ref (ad 0 0)), (1, .int a1), (2, .int a2)] []
  refine J_iload_n (i := 2) (q := 2) (pc1 := 1) dX7_oldOf_0 rfl rfl rfl ?_
  refine J_aload_n (i := 0) (q := 0) (pc1 := 2) dX7_oldOf_1 rfl rfl rfl ?_
  refine J_iload_n (i := 1) (q := 1) (pc1 := 3) dX7_oldOf_2 rfl rfl rfl ?_
  refine J_bipush (v := 7) (pc1 := 5) dX7_oldOf_3 (by decide) rfl ?_
  obtain ⟨r2, hc1, h⟩ := gBp_s h
  refine J_callV (As := [.int a1, .int 7]) (ad := ad) (f := 0) (i := 0) (st := [.int a2]) (st1 := [.int r2, .int a2]) (pc1 := 8) (kX7_of l D tc sa ad hI a1 7 μ r2 hc1) wcX7_of wlX7_38 eR0 rfl rfl rfl ⟨rfl, rfl, Nat.le_of_ble_eq_true rfl, Nat.le_of_ble_eq_true rfl⟩ ⟨Nat.zero_le _, Nat.zero_le _⟩ (Nat.le_of_ble_eq_true rfl) dX7_oldOf_5 rfl rfl ?_
  refine J_icmp_ne (tgt := 19) (pc1 := 11) dX7_oldOf_8 (by decide) (fun q3 => ?_) rfl (fun q3 => ?_)
  · rw [if_neg q3] at h
    refine J_aload_n (i := 0) (q := 0) (pc1 := 20) dX7_oldOf_19 rfl rfl rfl ?_
    refine J_iload_n (i := 1) (q := 1) (pc1 := 21) dX7_oldOf_20 rfl rfl rfl ?_
    refine J_iload_n (i := 2) (q := 2) (pc1 := 22) dX7_oldOf_21 rfl rfl rfl ?_
    refine J_iconst (v := 1) (pc1 := 23) dX7_oldOf_22 (by decide) rfl ?_
    obtain ⟨r5, hc4, h⟩ := gBp_s h
    refine J_callV (As := [.int a1, .int a2, .int 1]) (ad := ad) (f := 0) (i := 0) (st := []) (st1 := [.int r5]) (pc1 := 26) (kX7_entryOf l D tc sa ad hI a1 a2 1 μ r5 hc4) wcX7_entryOf wlX7_63 eR0 rfl rfl rfl ⟨rfl, rfl, Nat.le_of_ble_eq_true rfl, Nat.le_of_ble_eq_true rfl⟩ ⟨Nat.zero_le _, Nat.zero_le _⟩ (Nat.le_of_ble_eq_true rfl) dX7_oldOf_23 rfl rfl ?_
    refine J_iconst (v := 1) (pc1 := 27) dX7_oldOf_26 (by decide) rfl ?_
    refine J_icmp_ne (tgt := 42) (pc1 := 30) dX7_oldOf_27 (by decide) (fun q6 => ?_) rfl (fun q6 => ?_)
    · rw [if_neg q6] at h
      refine J_iconst (v := 0) (pc1 := 43) dX7_oldOf_42 (by decide) rfl ?_
      cases h
      exact J_iret hr hlk dX7_oldOf_43
    · rw [if_pos q6] at h
      refine J_aload_n (i := 0) (q := 0) (pc1 := 31) dX7_oldOf_30 rfl rfl rfl ?_
      refine J_iload_n (i := 1) (q := 1) (pc1 := 32) dX7_oldOf_31 rfl rfl rfl ?_
      refine J_iload_n (i := 2) (q := 2) (pc1 := 33) dX7_oldOf_32 rfl rfl rfl ?_
      refine J_iconst (v := 2) (pc1 := 34) dX7_oldOf_33 (by decide) rfl ?_
      obtain ⟨r8, hc7, h⟩ := gBp_s h
      refine J_callV (As := [.int a1, .int a2, .int 2]) (ad := ad) (f := 0) (i := 0) (st := []) (st1 := [.int r8]) (pc1 := 37) (kX7_entryOf l D tc sa ad hI a1 a2 2 μ r8 hc7) wcX7_entryOf wlX7_63 eR0 rfl rfl rfl ⟨rfl, rfl, Nat.le_of_ble_eq_true rfl, Nat.le_of_ble_eq_true rfl⟩ ⟨Nat.zero_le _, Nat.zero_le _⟩ (Nat.le_of_ble_eq_true rfl) dX7_oldOf_34 rfl rfl ?_
      refine J_iconst (v := 5) (pc1 := 38) dX7_oldOf_37 (by decide) rfl ?_
      refine J_ishr (pc1 := 39) dX7_oldOf_38 rfl ?_
      refine J_goto (tgt := 43) dX7_oldOf_39 (by decide) ?_
      cases h
      exact J_iret hr hlk dX7_oldOf_43
  · rw [if_pos q3] at h
    refine J_aload_n (i := 0) (q := 0) (pc1 := 12) dX7_oldOf_11 rfl rfl rfl ?_
    refine J_iload_n (i := 1) (q := 1) (pc1 := 13) dX7_oldOf_12 rfl rfl rfl ?_
    refine J_bipush (v := 10) (pc1 := 15) dX7_oldOf_13 (by decide) rfl ?_
    obtain ⟨r10, hc9, h⟩ := gBp_s h
    refine J_callV (As := [.int a1, .int 10]) (ad := ad) (f := 0) (i := 0) (st := []) (st1 := [.int r10]) (pc1 := 18) (kX7_of l D tc sa ad hI a1 10 μ r10 hc9) wcX7_of wlX7_38 eR0 rfl rfl rfl ⟨rfl, rfl, Nat.le_of_ble_eq_true rfl, Nat.le_of_ble_eq_true rfl⟩ ⟨Nat.zero_le _, Nat.zero_le _⟩ (Nat.le_of_ble_eq_true rfl) dX7_oldOf_15 rfl rfl ?_
    cases h
    exact J_iret hr hlk dX7_oldOf_18
def mX7_newOf (a1 : Int32) (a2 : Int32) (μ : gM) : Option Int32 :=
  gBp (mX7_of a1 7 μ) fun r2 =>
  if a2 = r2 then
    gBp (mX7_of a1 11 μ) fun r7 =>
    some r7
  else
    gBp (mX7_entryOf a1 a2 2 μ) fun r5 =>
    some (r5 &&& 31)
set_option maxHeartbeats 4000000 in
set_option maxRecDepth 100000 in
theorem kX7_newOf (l : Launch) (D : va_G) (tc : Nat → ClassId) (sa : Nat → Nat) (ad : Nat → Nat → Nat) (hI : gI gE_R ad) (a1 : Int32) (a2 : Int32) (μ : gM) (r : Int32) (h : mX7_newOf a1 a2 μ = some r) : gMet l yX7_newOf cX7_newOf 3 (some .int) ({ frames := 2, cells := 0, slots := 0, locals := 45 } : Room) D gE_R gkd_R tc ad grh_R sa [.ref (ad 0 0), .int a1, .int a2] μ (some (.int r)) μ := by
  refine gMet_of hI ⟨by decide +kernel, Nat.le_of_ble_eq_true rfl⟩ (fun p e s m args below meth c sz hr hlk => ?_)
  unfold mX7_newOf at h
  show JR p l e ({ frames := 2, cells := 0, slots := 0, locals := 45 } : Room) s m args below meth c cX7_newOf 3 RX7 D tc sa ad sz (some (.int r)) μ μ 0 [(0, .ref (ad 0 0)), (1, .int a1), (2, .int a2)] []
  refine J_iload_n (i := 2) (q := 2) (pc1 := 1) dX7_newOf_0 rfl rfl rfl ?_
  refine J_aload_n (i := 0) (q := 0) (pc1 := 2) dX7_newOf_1 rfl rfl rfl ?_
  refine J_iload_n (i := 1) (q := 1) (pc1 := 3) dX7_newOf_2 rfl rfl rfl ?_
  refine J_bipush (v := 7) (pc1 := 5) dX7_newOf_3 (by decide) rfl ?_
  obtain ⟨r2, hc1, h⟩ := gBp_s h
  refine J_callV (As := [.int a1, .int 7]) (ad := ad) (f := 0) (i := 0) (st := [.int a2]) (st1 := [.int r2, .int a2]) (pc1 := 8) (kX7_of l D tc sa ad hI a1 7 μ r2 hc1) wcX7_of wlX7_38 eR0 rfl rfl rfl ⟨rfl, rfl, Nat.le_of_ble_eq_true rfl, Nat.le_of_ble_eq_true rfl⟩ ⟨Nat.zero_le _, Nat.zero_le _⟩ (Nat.le_of_ble_eq_true rfl) dX7_newOf_5 rfl rfl ?_
  refine J_icmp_ne (tgt := 21) (pc1 := 11) dX7_newOf_8 (by decide) (fun q3 => ?_) rfl (fun q3 => ?_)
  · rw [if_neg q3] at h
    refine J_aload_n (i := 0) (q := 0) (pc1 := 22) dX7_newOf_21 rfl rfl rfl ?_
    refine J_iload_n (i := 1) (q := 1) (pc1 := 23) dX7_newOf_22 rfl rfl rfl ?_
    refine J_iload_n (i := 2) (q := 2) (pc1 := 24) dX7_newOf_23 rfl rfl rfl ?_
    refine J_iconst (v := 2) (pc1 := 25) dX7_newOf_24 (by decide) rfl ?_
    obtain ⟨r5, hc4, h⟩ := gBp_s h
    refine J_callV (As := [.int a1, .int a2, .int 2]) (ad := ad) (f := 0) (i := 0) (st := []) (st1 := [.int r5]) (pc1 := 28) (kX7_entryOf l D tc sa ad hI a1 a2 2 μ r5 hc4) wcX7_entryOf wlX7_63 eR0 rfl rfl rfl ⟨rfl, rfl, Nat.le_of_ble_eq_true rfl, Nat.le_of_ble_eq_true rfl⟩ ⟨Nat.zero_le _, Nat.zero_le _⟩ (Nat.le_of_ble_eq_true rfl) dX7_newOf_25 rfl rfl ?_
    refine J_bipush (v := 31) (pc1 := 30) dX7_newOf_28 (by decide) rfl ?_
    refine J_iand (pc1 := 31) dX7_newOf_30 rfl ?_
    cases h
    exact J_iret hr hlk dX7_newOf_31
  · rw [if_pos q3] at h
    refine J_aload_n (i := 0) (q := 0) (pc1 := 12) dX7_newOf_11 rfl rfl rfl ?_
    refine J_iload_n (i := 1) (q := 1) (pc1 := 13) dX7_newOf_12 rfl rfl rfl ?_
    refine J_bipush (v := 11) (pc1 := 15) dX7_newOf_13 (by decide) rfl ?_
    obtain ⟨r7, hc6, h⟩ := gBp_s h
    refine J_callV (As := [.int a1, .int 11]) (ad := ad) (f := 0) (i := 0) (st := []) (st1 := [.int r7]) (pc1 := 18) (kX7_of l D tc sa ad hI a1 11 μ r7 hc6) wcX7_of wlX7_38 eR0 rfl rfl rfl ⟨rfl, rfl, Nat.le_of_ble_eq_true rfl, Nat.le_of_ble_eq_true rfl⟩ ⟨Nat.zero_le _, Nat.zero_le _⟩ (Nat.le_of_ble_eq_true rfl) dX7_newOf_15 rfl rfl ?_
    refine J_goto (tgt := 31) dX7_newOf_18 (by decide) ?_
    cases h
    exact J_iret hr hlk dX7_newOf_31
def mX7_configuration (a1 : Int32) (μ : gM) : Option Int32 :=
  gBp (mX7_last a1 μ) fun r2 =>
  gBp (mX7_configurationAt a1 r2 μ) fun r4 =>
  some r4
set_option maxHeartbeats 4000000 in
set_option maxRecDepth 100000 in
theorem kX7_configuration (l : Launch) (D : va_G) (tc : Nat → ClassId) (sa : Nat → Nat) (ad : Nat → Nat → Nat) (hI : gI gE_R ad) (a1 : Int32) (μ : gM) (r : Int32) (h : mX7_configuration a1 μ = some r) : gMet l yX7_configuration cX7_configuration 2 (some .int) ({ frames := 3, cells := 0, slots := 0, locals := 70 } : Room) D gE_R gkd_R tc ad grh_R sa [.ref (ad 0 0), .int a1] μ (some (.int r)) μ := by
  refine gMet_of hI ⟨by decide +kernel, Nat.le_of_ble_eq_true rfl⟩ (fun p e s m args below meth c sz hr hlk => ?_)
  unfold mX7_configuration at h
  show JR p l e ({ frames := 3, cells := 0, slots := 0, locals := 70 } : Room) s m args below meth c cX7_configuration 2 RX7 D tc sa ad sz (some (.int r)) μ μ 0 [(0, .ref (ad 0 0)), (1, .int a1)] []
  refine J_aload_n (i := 0) (q := 0) (pc1 := 1) dX7_configuration_0 rfl rfl rfl ?_
  refine J_iload_n (i := 1) (q := 1) (pc1 := 2) dX7_configuration_1 rfl rfl rfl ?_
  refine J_aload_n (i := 0) (q := 0) (pc1 := 3) dX7_configuration_2 rfl rfl rfl ?_
  refine J_iload_n (i := 1) (q := 1) (pc1 := 4) dX7_configuration_3 rfl rfl rfl ?_
  obtain ⟨r2, hc1, h⟩ := gBp_s h
  refine J_callV (As := [.int a1]) (ad := ad) (f := 0) (i := 0) (st := [.int a1, .ref (ad 0 0)]) (st1 := [.int r2, .int a1, .ref (ad 0 0)]) (pc1 := 7) (kX7_last l D tc sa ad hI a1 μ r2 hc1) wcX7_last wlX7_67 eR0 rfl rfl rfl ⟨rfl, rfl, Nat.le_of_ble_eq_true rfl, Nat.le_of_ble_eq_true rfl⟩ ⟨Nat.zero_le _, Nat.zero_le _⟩ (Nat.le_of_ble_eq_true rfl) dX7_configuration_4 rfl rfl ?_
  obtain ⟨r4, hc3, h⟩ := gBp_s h
  refine J_callV (As := [.int a1, .int r2]) (ad := ad) (f := 0) (i := 0) (st := []) (st1 := [.int r4]) (pc1 := 10) (kX7_configurationAt l D tc sa ad hI a1 r2 μ r4 hc3) wcX7_configurationAt wlX7_70 eR0 rfl rfl rfl ⟨rfl, rfl, Nat.le_of_ble_eq_true rfl, Nat.le_of_ble_eq_true rfl⟩ ⟨Nat.zero_le _, Nat.zero_le _⟩ (Nat.le_of_ble_eq_true rfl) dX7_configuration_7 rfl rfl ?_
  cases h
  exact J_iret hr hlk dX7_configuration_10
def mX7_members (a1 : Int32) (μ : gM) : Option Int32 :=
  gBp (mX7_configuration a1 μ) fun r2 =>
  gBp (mX7_oldOf a1 r2 μ) fun r4 =>
  gBp (mX7_newOf a1 r2 μ) fun r6 =>
  some (r4 ||| r6)
set_option maxHeartbeats 4000000 in
set_option maxRecDepth 100000 in
theorem kX7_members (l : Launch) (D : va_G) (tc : Nat → ClassId) (sa : Nat → Nat) (ad : Nat → Nat → Nat) (hI : gI gE_R ad) (a1 : Int32) (μ : gM) (r : Int32) (h : mX7_members a1 μ = some r) : gMet l yX7_members cX7_members 3 (some .int) ({ frames := 4, cells := 0, slots := 0, locals := 91 } : Room) D gE_R gkd_R tc ad grh_R sa [.ref (ad 0 0), .int a1] μ (some (.int r)) μ := by
  refine gMet_of hI ⟨by decide +kernel, Nat.le_of_ble_eq_true rfl⟩ (fun p e s m args below meth c sz hr hlk => ?_)
  unfold mX7_members at h
  show JR p l e ({ frames := 4, cells := 0, slots := 0, locals := 91 } : Room) s m args below meth c cX7_members 3 RX7 D tc sa ad sz (some (.int r)) μ μ 0 [(0, .ref (ad 0 0)), (1, .int a1)] []
  refine J_aload_n (i := 0) (q := 0) (pc1 := 1) dX7_members_0 rfl rfl rfl ?_
  refine J_iload_n (i := 1) (q := 1) (pc1 := 2) dX7_members_1 rfl rfl rfl ?_
  obtain ⟨r2, hc1, h⟩ := gBp_s h
  refine J_callV (As := [.int a1]) (ad := ad) (f := 0) (i := 0) (st := []) (st1 := [.int r2]) (pc1 := 5) (kX7_configuration l D tc sa ad hI a1 μ r2 hc1) wcX7_configuration wlX7_73 eR0 rfl rfl rfl ⟨rfl, rfl, Nat.le_of_ble_eq_true rfl, Nat.le_of_ble_eq_true rfl⟩ ⟨Nat.zero_le _, Nat.zero_le _⟩ (Nat.le_of_ble_eq_true rfl) dX7_members_2 rfl rfl ?_
  refine J_istore_n (i := 2) (lv1 := [(2, .int r2), (0, .ref (ad 0 0)), (1, .int a1)]) (pc1 := 6) dX7_members_5 rfl (by decide) rfl rfl ?_
  refine J_aload_n (i := 0) (q := 1) (pc1 := 7) dX7_members_6 rfl rfl rfl ?_
  refine J_iload_n (i := 1) (q := 2) (pc1 := 8) dX7_members_7 rfl rfl rfl ?_
  refine J_iload_n (i := 2) (q := 0) (pc1 := 9) dX7_members_8 rfl rfl rfl ?_
  obtain ⟨r4, hc3, h⟩ := gBp_s h
  refine J_callV (As := [.int a1, .int r2]) (ad := ad) (f := 0) (i := 0) (st := []) (st1 := [.int r4]) (pc1 := 12) (kX7_oldOf l D tc sa ad hI a1 r2 μ r4 hc3) wcX7_oldOf wlX7_76 eR0 rfl rfl rfl ⟨rfl, rfl, Nat.le_of_ble_eq_true rfl, Nat.le_of_ble_eq_true rfl⟩ ⟨Nat.zero_le _, Nat.zero_le _⟩ (Nat.le_of_ble_eq_true rfl) dX7_members_9 rfl rfl ?_
  refine J_aload_n (i := 0) (q := 1) (pc1 := 13) dX7_members_12 rfl rfl rfl ?_
  refine J_iload_n (i := 1) (q := 2) (pc1 := 14) dX7_members_13 rfl rfl rfl ?_
  refine J_iload_n (i := 2) (q := 0) (pc1 := 15) dX7_members_14 rfl rfl rfl ?_
  obtain ⟨r6, hc5, h⟩ := gBp_s h
  refine J_callV (As := [.int a1, .int r2]) (ad := ad) (f := 0) (i := 0) (st := [.int r4]) (st1 := [.int r6, .int r4]) (pc1 := 18) (kX7_newOf l D tc sa ad hI a1 r2 μ r6 hc5) wcX7_newOf wlX7_79 eR0 rfl rfl rfl ⟨rfl, rfl, Nat.le_of_ble_eq_true rfl, Nat.le_of_ble_eq_true rfl⟩ ⟨Nat.zero_le _, Nat.zero_le _⟩ (Nat.le_of_ble_eq_true rfl) dX7_members_15 rfl rfl ?_
  refine J_ior (pc1 := 19) dX7_members_18 rfl ?_
  cases h
  exact J_iret hr hlk dX7_members_19
def mX7_isMost (a1 : Int32) (a2 : Int32) (μ : gM) : Option Int32 :=
  if a2 = 0 then
    some 1
  else
    gBp (mX7_countBits (a1 &&& a2) μ) fun r3 =>
    gBp (mX7_countBits a2 μ) fun r5 =>
    if (2 * r3) ≤ r5 then
      some 0
    else
      some 1
set_option maxHeartbeats 4000000 in
set_option maxRecDepth 100000 in
theorem kX7_isMost (l : Launch) (D : va_G) (tc : Nat → ClassId) (sa : Nat → Nat) (ad : Nat → Nat → Nat) (hI : gI gE_R ad) (a1 : Int32) (a2 : Int32) (μ : gM) (r : Int32) (h : mX7_isMost a1 a2 μ = some r) : gMet l yX7_isMost cX7_isMost 2 (some .boolean) ({ frames := 1, cells := 0, slots := 0, locals := 22 } : Room) D gE_R gkd_R tc ad grh_R sa [.int a1, .int a2] μ (some (.int r)) μ := by
  refine gMet_of hI ⟨by decide +kernel, Nat.le_of_ble_eq_true rfl⟩ (fun p e s m args below meth c sz hr hlk => ?_)
  unfold mX7_isMost at h
  show JR p l e ({ frames := 1, cells := 0, slots := 0, locals := 22 } : Room) s m args below meth c cX7_isMost 2 RX7 D tc sa ad sz (some (.int r)) μ μ 0 [(0, .int a1), (1, .int a2)] []
  refine J_iload_n (i := 1) (q := 1) (pc1 := 1) dX7_isMost_0 rfl rfl rfl ?_
  refine J_if_eq (tgt := 19) (pc1 := 4) dX7_isMost_1 (by decide) (fun q1 => ?_) rfl (fun q1 => ?_)
  · rw [if_pos q1] at h
    refine J_iconst (v := 1) (pc1 := 20) dX7_isMost_19 (by decide) rfl ?_
    refine J_goto (tgt := 24) dX7_isMost_20 (by decide) ?_
    cases h
    exact J_zret (by decide) hr hlk dX7_isMost_24
  · rw [if_neg q1] at h
    refine J_iconst (v := 2) (pc1 := 5) dX7_isMost_4 (by decide) rfl ?_
    refine J_iload_n (i := 0) (q := 0) (pc1 := 6) dX7_isMost_5 rfl rfl rfl ?_
    refine J_iload_n (i := 1) (q := 1) (pc1 := 7) dX7_isMost_6 rfl rfl rfl ?_
    refine J_iand (pc1 := 8) dX7_isMost_7 rfl ?_
    obtain ⟨r3, hc2, h⟩ := gBp_s h
    refine J_callS (As := [.int (a1 &&& a2)]) (st := [.int 2]) (st1 := [.int r3, .int 2]) (pc1 := 11) (kX7_countBits l D tc sa ad hI (a1 &&& a2) μ r3 hc2) wcX7_countBits wlX7_59 rfl ⟨rfl, rfl, Nat.le_of_ble_eq_true rfl, Nat.le_of_ble_eq_true rfl⟩ ⟨Nat.zero_le _, Nat.zero_le _⟩ (Nat.le_of_ble_eq_true rfl) dX7_isMost_8 rfl rfl ?_
    refine J_imul (pc1 := 12) dX7_isMost_11 rfl ?_
    refine J_iload_n (i := 1) (q := 1) (pc1 := 13) dX7_isMost_12 rfl rfl rfl ?_
    obtain ⟨r5, hc4, h⟩ := gBp_s h
    refine J_callS (As := [.int a2]) (st := [.int (2 * r3)]) (st1 := [.int r5, .int (2 * r3)]) (pc1 := 16) (kX7_countBits l D tc sa ad hI a2 μ r5 hc4) wcX7_countBits wlX7_59 rfl ⟨rfl, rfl, Nat.le_of_ble_eq_true rfl, Nat.le_of_ble_eq_true rfl⟩ ⟨Nat.zero_le _, Nat.zero_le _⟩ (Nat.le_of_ble_eq_true rfl) dX7_isMost_13 rfl rfl ?_
    refine J_icmp_le (tgt := 23) (pc1 := 19) dX7_isMost_16 (by decide) (fun q6 => ?_) rfl (fun q6 => ?_)
    · rw [if_pos q6] at h
      refine J_iconst (v := 0) (pc1 := 24) dX7_isMost_23 (by decide) rfl ?_
      cases h
      exact J_zret (by decide) hr hlk dX7_isMost_24
    · rw [if_neg q6] at h
      refine J_iconst (v := 1) (pc1 := 20) dX7_isMost_19 (by decide) rfl ?_
      refine J_goto (tgt := 24) dX7_isMost_20 (by decide) ?_
      cases h
      exact J_zret (by decide) hr hlk dX7_isMost_24
def mX7_isQuorum (a1 : Int32) (a2 : Int32) (μ : gM) : Option Int32 :=
  gBp (mX7_configuration a1 μ) fun r2 =>
  gBp (mX7_oldOf a1 r2 μ) fun r4 =>
  gBp (mX7_isMost a2 r4 μ) fun r6 =>
  if r6 = 0 then
    some 0
  else
    gBp (mX7_newOf a1 r2 μ) fun r9 =>
    gBp (mX7_isMost a2 r9 μ) fun r11 =>
    if r11 = 0 then
      some 0
    else
      some 1
set_option maxHeartbeats 4000000 in
set_option maxRecDepth 100000 in
theorem kX7_isQuorum (l : Launch) (D : va_G) (tc : Nat → ClassId) (sa : Nat → Nat) (ad : Nat → Nat → Nat) (hI : gI gE_R ad) (a1 : Int32) (a2 : Int32) (μ : gM) (r : Int32) (h : mX7_isQuorum a1 a2 μ = some r) : gMet l yX7_isQuorum cX7_isQuorum 4 (some .boolean) ({ frames := 4, cells := 0, slots := 0, locals := 91 } : Room) D gE_R gkd_R tc ad grh_R sa [.ref (ad 0 0), .int a1, .int a2] μ (some (.int r)) μ := by
  refine gMet_of hI ⟨by decide +kernel, Nat.le_of_ble_eq_true rfl⟩ (fun p e s m args below meth c sz hr hlk => ?_)
  unfold mX7_isQuorum at h
  show JR p l e ({ frames := 4, cells := 0, slots := 0, locals := 91 } : Room) s m args below meth c cX7_isQuorum 4 RX7 D tc sa ad sz (some (.int r)) μ μ 0 [(0, .ref (ad 0 0)), (1, .int a1), (2, .int a2)] []
  refine J_aload_n (i := 0) (q := 0) (pc1 := 1) dX7_isQuorum_0 rfl rfl rfl ?_
  refine J_iload_n (i := 1) (q := 1) (pc1 := 2) dX7_isQuorum_1 rfl rfl rfl ?_
  obtain ⟨r2, hc1, h⟩ := gBp_s h
  refine J_callV (As := [.int a1]) (ad := ad) (f := 0) (i := 0) (st := []) (st1 := [.int r2]) (pc1 := 5) (kX7_configuration l D tc sa ad hI a1 μ r2 hc1) wcX7_configuration wlX7_73 eR0 rfl rfl rfl ⟨rfl, rfl, Nat.le_of_ble_eq_true rfl, Nat.le_of_ble_eq_true rfl⟩ ⟨Nat.zero_le _, Nat.zero_le _⟩ (Nat.le_of_ble_eq_true rfl) dX7_isQuorum_2 rfl rfl ?_
  refine J_istore_n (i := 3) (lv1 := [(3, .int r2), (0, .ref (ad 0 0)), (1, .int a1), (2, .int a2)]) (pc1 := 6) dX7_isQuorum_5 rfl (by decide) rfl rfl ?_
  refine J_iload_n (i := 2) (q := 3) (pc1 := 7) dX7_isQuorum_6 rfl rfl rfl ?_
  refine J_aload_n (i := 0) (q := 1) (pc1 := 8) dX7_isQuorum_7 rfl rfl rfl ?_
  refine J_iload_n (i := 1) (q := 2) (pc1 := 9) dX7_isQuorum_8 rfl rfl rfl ?_
  refine J_iload_n (i := 3) (q := 0) (pc1 := 10) dX7_isQuorum_9 rfl rfl rfl ?_
  obtain ⟨r4, hc3, h⟩ := gBp_s h
  refine J_callV (As := [.int a1, .int r2]) (ad := ad) (f := 0) (i := 0) (st := [.int a2]) (st1 := [.int r4, .int a2]) (pc1 := 13) (kX7_oldOf l D tc sa ad hI a1 r2 μ r4 hc3) wcX7_oldOf wlX7_76 eR0 rfl rfl rfl ⟨rfl, rfl, Nat.le_of_ble_eq_true rfl, Nat.le_of_ble_eq_true rfl⟩ ⟨Nat.zero_le _, Nat.zero_le _⟩ (Nat.le_of_ble_eq_true rfl) dX7_isQuorum_10 rfl rfl ?_
  obtain ⟨r6, hc5, h⟩ := gBp_s h
  refine J_callS (As := [.int a2, .int r4]) (st := []) (st1 := [.int r6]) (pc1 := 16) (kX7_isMost l D tc sa ad hI a2 r4 μ r6 hc5) wcX7_isMost wlX7_82 rfl ⟨rfl, rfl, Nat.le_of_ble_eq_true rfl, Nat.le_of_ble_eq_true rfl⟩ ⟨Nat.zero_le _, Nat.zero_le _⟩ (Nat.le_of_ble_eq_true rfl) dX7_isQuorum_13 rfl rfl ?_
  refine J_if_eq (tgt := 36) (pc1 := 19) dX7_isQuorum_16 (by decide) (fun q7 => ?_) rfl (fun q7 => ?_)
  · rw [if_pos q7] at h
    refine J_iconst (v := 0) (pc1 := 37) dX7_isQuorum_36 (by decide) rfl ?_
    cases h
    exact J_zret (by decide) hr hlk dX7_isQuorum_37
  · rw [if_neg q7] at h
    refine J_iload_n (i := 2) (q := 3) (pc1 := 20) dX7_isQuorum_19 rfl rfl rfl ?_
    refine J_aload_n (i := 0) (q := 1) (pc1 := 21) dX7_isQuorum_20 rfl rfl rfl ?_
    refine J_iload_n (i := 1) (q := 2) (pc1 := 22) dX7_isQuorum_21 rfl rfl rfl ?_
    refine J_iload_n (i := 3) (q := 0) (pc1 := 23) dX7_isQuorum_22 rfl rfl rfl ?_
    obtain ⟨r9, hc8, h⟩ := gBp_s h
    refine J_callV (As := [.int a1, .int r2]) (ad := ad) (f := 0) (i := 0) (st := [.int a2]) (st1 := [.int r9, .int a2]) (pc1 := 26) (kX7_newOf l D tc sa ad hI a1 r2 μ r9 hc8) wcX7_newOf wlX7_79 eR0 rfl rfl rfl ⟨rfl, rfl, Nat.le_of_ble_eq_true rfl, Nat.le_of_ble_eq_true rfl⟩ ⟨Nat.zero_le _, Nat.zero_le _⟩ (Nat.le_of_ble_eq_true rfl) dX7_isQuorum_23 rfl rfl ?_
    obtain ⟨r11, hc10, h⟩ := gBp_s h
    refine J_callS (As := [.int a2, .int r9]) (st := []) (st1 := [.int r11]) (pc1 := 29) (kX7_isMost l D tc sa ad hI a2 r9 μ r11 hc10) wcX7_isMost wlX7_82 rfl ⟨rfl, rfl, Nat.le_of_ble_eq_true rfl, Nat.le_of_ble_eq_true rfl⟩ ⟨Nat.zero_le _, Nat.zero_le _⟩ (Nat.le_of_ble_eq_true rfl) dX7_isQuorum_26 rfl rfl ?_
    refine J_if_eq (tgt := 36) (pc1 := 32) dX7_isQuorum_29 (by decide) (fun q12 => ?_) rfl (fun q12 => ?_)
    · rw [if_pos q12] at h
      refine J_iconst (v := 0) (pc1 := 37) dX7_isQuorum_36 (by decide) rfl ?_
      cases h
      exact J_zret (by decide) hr hlk dX7_isQuorum_37
    · rw [if_neg q12] at h
      refine J_iconst (v := 1) (pc1 := 33) dX7_isQuorum_32 (by decide) rfl ?_
      refine J_goto (tgt := 37) dX7_isQuorum_33 (by decide) ?_
      cases h
      exact J_zret (by decide) hr hlk dX7_isQuorum_37
def mX7_resultOf (a1 : Int32) (μ : gM) : Option Int32 :=
  gBp (mX7_of a1 9 μ) fun r2 =>
  gBp (mX7_of a1 7 μ) fun r4 =>
  gLet (α := Int32) (r4 + 1) fun x5 =>
  gJon (fun (x9 : Int32) =>
      some x9) fun j10 =>
  gFx2 (fun rec13 (x11 : Int32) (x12 : Int32) =>
      gBp (mX7_of a1 4 μ) fun r15 =>
      if r15 < x12 then
        j10 x11
      else
        gBp (mX7_entryOf a1 x12 1 μ) fun r18 =>
        if r18 = 0 then
          gBp (mX7_entryOf a1 x12 2 μ) fun r21 =>
          gLet (α := Int32) ((31 * x11) + r21) fun x22 =>
          rec13 x22 (x12 + 1)
        else
          rec13 x11 (x12 + 1)) 1000000 r2 x5
set_option maxHeartbeats 4000000 in
set_option maxRecDepth 100000 in
theorem kX7_resultOf (l : Launch) (D : va_G) (tc : Nat → ClassId) (sa : Nat → Nat) (ad : Nat → Nat → Nat) (hI : gI gE_R ad) (a1 : Int32) (μ : gM) (r : Int32) (h : mX7_resultOf a1 μ = some r) : gMet l yX7_resultOf cX7_resultOf 4 (some .int) ({ frames := 2, cells := 0, slots := 0, locals := 45 } : Room) D gE_R gkd_R tc ad grh_R sa [.ref (ad 0 0), .int a1] μ (some (.int r)) μ := by
  refine gMet_of hI ⟨by decide +kernel, Nat.le_of_ble_eq_true rfl⟩ (fun p e s m args below meth c sz hr hlk => ?_)
  unfold mX7_resultOf at h
  show JR p l e ({ frames := 2, cells := 0, slots := 0, locals := 45 } : Room) s m args below meth c cX7_resultOf 4 RX7 D tc sa ad sz (some (.int r)) μ μ 0 [(0, .ref (ad 0 0)), (1, .int a1)] []
  refine J_aload_n (i := 0) (q := 0) (pc1 := 1) dX7_resultOf_0 rfl rfl rfl ?_
  refine J_iload_n (i := 1) (q := 1) (pc1 := 2) dX7_resultOf_1 rfl rfl rfl ?_
  refine J_bipush (v := 9) (pc1 := 4) dX7_resultOf_2 (by decide) rfl ?_
  obtain ⟨r2, hc1, h⟩ := gBp_s h
  refine J_callV (As := [.int a1, .int 9]) (ad := ad) (f := 0) (i := 0) (st := []) (st1 := [.int r2]) (pc1 := 7) (kX7_of l D tc sa ad hI a1 9 μ r2 hc1) wcX7_of wlX7_38 eR0 rfl rfl rfl ⟨rfl, rfl, Nat.le_of_ble_eq_true rfl, Nat.le_of_ble_eq_true rfl⟩ ⟨Nat.zero_le _, Nat.zero_le _⟩ (Nat.le_of_ble_eq_true rfl) dX7_resultOf_4 rfl rfl ?_
  refine J_istore_n (i := 2) (lv1 := [(2, .int r2), (0, .ref (ad 0 0)), (1, .int a1)]) (pc1 := 8) dX7_resultOf_7 rfl (by decide) rfl rfl ?_
  refine J_aload_n (i := 0) (q := 1) (pc1 := 9) dX7_resultOf_8 rfl rfl rfl ?_
  refine J_iload_n (i := 1) (q := 2) (pc1 := 10) dX7_resultOf_9 rfl rfl rfl ?_
  refine J_bipush (v := 7) (pc1 := 12) dX7_resultOf_10 (by decide) rfl ?_
  obtain ⟨r4, hc3, h⟩ := gBp_s h
  refine J_callV (As := [.int a1, .int 7]) (ad := ad) (f := 0) (i := 0) (st := []) (st1 := [.int r4]) (pc1 := 15) (kX7_of l D tc sa ad hI a1 7 μ r4 hc3) wcX7_of wlX7_38 eR0 rfl rfl rfl ⟨rfl, rfl, Nat.le_of_ble_eq_true rfl, Nat.le_of_ble_eq_true rfl⟩ ⟨Nat.zero_le _, Nat.zero_le _⟩ (Nat.le_of_ble_eq_true rfl) dX7_resultOf_12 rfl rfl ?_
  refine J_iconst (v := 1) (pc1 := 16) dX7_resultOf_15 (by decide) rfl ?_
  refine J_iadd (pc1 := 17) dX7_resultOf_16 rfl ?_
  obtain ⟨x5, e7, h⟩ := gLet_s h
  refine J_top (fun y6 e8 => ?_)
  have e8x : x5 = y6 := (e8.trans e7.symm).symm
  subst e8x
  refine J_istore_n (i := 3) (lv1 := [(3, .int x5), (2, .int r2), (0, .ref (ad 0 0)), (1, .int a1)]) (pc1 := 18) dX7_resultOf_17 rfl (by decide) rfl rfl ?_
  obtain ⟨j10, ej10, h⟩ := gJon_s h
  have kj10 : ∀ (x9 : Int32), j10 x9 = some r → JR p l e ({ frames := 2, cells := 0, slots := 0, locals := 45 } : Room) s m args below meth c cX7_resultOf 4 RX7 D tc sa ad sz (some (.int r)) μ μ 61 [(2, .int x9)] [] := by
    intro x9 h
    rw [ej10] at h
    try dsimp only at h
    refine J_iload_n (i := 2) (q := 0) (pc1 := 62) dX7_resultOf_61 rfl rfl rfl ?_
    cases h
    exact J_iret hr hlk dX7_resultOf_62
  clear ej10
  refine J_sub [2, 3, 1, 0] (lv1 := [(0, .ref (ad 0 0)), (1, .int a1), (2, .int r2), (3, .int x5)]) rfl ?_
  refine gFx2_s (P := fun x11 x12 => JR p l e ({ frames := 2, cells := 0, slots := 0, locals := 45 } : Room) s m args below meth c cX7_resultOf 4 RX7 D tc sa ad sz (some (.int r)) μ μ 18 [(0, .ref (ad 0 0)), (1, .int a1), (2, .int x11), (3, .int x12)] []) (fun rec13 ihrec13 x11 x12 h => ?_) _ _ _ h
  try dsimp only at h
  refine J_iload_n (i := 3) (q := 3) (pc1 := 19) dX7_resultOf_18 rfl rfl rfl ?_
  refine J_aload_n (i := 0) (q := 0) (pc1 := 20) dX7_resultOf_19 rfl rfl rfl ?_
  refine J_iload_n (i := 1) (q := 1) (pc1 := 21) dX7_resultOf_20 rfl rfl rfl ?_
  refine J_iconst (v := 4) (pc1 := 22) dX7_resultOf_21 (by decide) rfl ?_
  obtain ⟨r15, hc14, h⟩ := gBp_s h
  refine J_callV (As := [.int a1, .int 4]) (ad := ad) (f := 0) (i := 0) (st := [.int x12]) (st1 := [.int r15, .int x12]) (pc1 := 25) (kX7_of l D tc sa ad hI a1 4 μ r15 hc14) wcX7_of wlX7_38 eR0 rfl rfl rfl ⟨rfl, rfl, Nat.le_of_ble_eq_true rfl, Nat.le_of_ble_eq_true rfl⟩ ⟨Nat.zero_le _, Nat.zero_le _⟩ (Nat.le_of_ble_eq_true rfl) dX7_resultOf_22 rfl rfl ?_
  refine J_icmp_gt (tgt := 61) (pc1 := 28) dX7_resultOf_25 (by decide) (fun q16 => ?_) rfl (fun q16 => ?_)
  · rw [if_pos q16] at h
    refine J_sub [2] (lv1 := [(2, .int x11)]) rfl ?_
    exact kj10 _ h
  · rw [if_neg q16] at h
    refine J_aload_n (i := 0) (q := 0) (pc1 := 29) dX7_resultOf_28 rfl rfl rfl ?_
    refine J_iload_n (i := 1) (q := 1) (pc1 := 30) dX7_resultOf_29 rfl rfl rfl ?_
    refine J_iload_n (i := 3) (q := 3) (pc1 := 31) dX7_resultOf_30 rfl rfl rfl ?_
    refine J_iconst (v := 1) (pc1 := 32) dX7_resultOf_31 (by decide) rfl ?_
    obtain ⟨r18, hc17, h⟩ := gBp_s h
    refine J_callV (As := [.int a1, .int x12, .int 1]) (ad := ad) (f := 0) (i := 0) (st := []) (st1 := [.int r18]) (pc1 := 35) (kX7_entryOf l D tc sa ad hI a1 x12 1 μ r18 hc17) wcX7_entryOf wlX7_63 eR0 rfl rfl rfl ⟨rfl, rfl, Nat.le_of_ble_eq_true rfl, Nat.le_of_ble_eq_true rfl⟩ ⟨Nat.zero_le _, Nat.zero_le _⟩ (Nat.le_of_ble_eq_true rfl) dX7_resultOf_32 rfl rfl ?_
    refine J_if_ne (tgt := 53) (pc1 := 38) dX7_resultOf_35 (by decide) (fun q19 => ?_) rfl (fun q19 => ?_)
    · rw [if_neg q19] at h
      refine J_iload_n (i := 2) (q := 2) (pc1 := 54) dX7_resultOf_53 rfl rfl rfl ?_
      refine J_istore_n (i := 2) (lv1 := [(2, .int x11), (0, .ref (ad 0 0)), (1, .int a1), (3, .int x12)]) (pc1 := 55) dX7_resultOf_54 rfl (by decide) rfl rfl ?_
      refine J_iinc (i := 3) (q := 3) (v := x12 + 1) (lv1 := [(3, .int (x12 + 1)), (2, .int x11), (0, .ref (ad 0 0)), (1, .int a1)]) (pc1 := 58) dX7_resultOf_55 rfl rfl (by decide) rfl rfl ?_
      refine J_goto (tgt := 18) dX7_resultOf_58 (by decide) ?_
      refine J_sub [2, 3, 1, 0] (lv1 := [(0, .ref (ad 0 0)), (1, .int a1), (2, .int x11), (3, .int (x12 + 1))]) rfl ?_
      exact ihrec13 _ _ h
    · rw [if_pos q19] at h
      refine J_bipush (v := 31) (pc1 := 40) dX7_resultOf_38 (by decide) rfl ?_
      refine J_iload_n (i := 2) (q := 2) (pc1 := 41) dX7_resultOf_40 rfl rfl rfl ?_
      refine J_imul (pc1 := 42) dX7_resultOf_41 rfl ?_
      refine J_aload_n (i := 0) (q := 0) (pc1 := 43) dX7_resultOf_42 rfl rfl rfl ?_
      refine J_iload_n (i := 1) (q := 1) (pc1 := 44) dX7_resultOf_43 rfl rfl rfl ?_
      refine J_iload_n (i := 3) (q := 3) (pc1 := 45) dX7_resultOf_44 rfl rfl rfl ?_
      refine J_iconst (v := 2) (pc1 := 46) dX7_resultOf_45 (by decide) rfl ?_
      obtain ⟨r21, hc20, h⟩ := gBp_s h
      refine J_callV (As := [.int a1, .int x12, .int 2]) (ad := ad) (f := 0) (i := 0) (st := [.int (31 * x11)]) (st1 := [.int r21, .int (31 * x11)]) (pc1 := 49) (kX7_entryOf l D tc sa ad hI a1 x12 2 μ r21 hc20) wcX7_entryOf wlX7_63 eR0 rfl rfl rfl ⟨rfl, rfl, Nat.le_of_ble_eq_true rfl, Nat.le_of_ble_eq_true rfl⟩ ⟨Nat.zero_le _, Nat.zero_le _⟩ (Nat.le_of_ble_eq_true rfl) dX7_resultOf_46 rfl rfl ?_
      refine J_iadd (pc1 := 50) dX7_resultOf_49 rfl ?_
      refine J_goto (tgt := 54) dX7_resultOf_50 (by decide) ?_
      obtain ⟨x22, e24, h⟩ := gLet_s h
      refine J_top (fun y23 e25 => ?_)
      have e25x : x22 = y23 := (e25.trans e24.symm).symm
      subst e25x
      refine J_istore_n (i := 2) (lv1 := [(2, .int x22), (0, .ref (ad 0 0)), (1, .int a1), (3, .int x12)]) (pc1 := 55) dX7_resultOf_54 rfl (by decide) rfl rfl ?_
      refine J_iinc (i := 3) (q := 3) (v := x12 + 1) (lv1 := [(3, .int (x12 + 1)), (2, .int x22), (0, .ref (ad 0 0)), (1, .int a1)]) (pc1 := 58) dX7_resultOf_55 rfl rfl (by decide) rfl rfl ?_
      refine J_goto (tgt := 18) dX7_resultOf_58 (by decide) ?_
      refine J_sub [2, 3, 1, 0] (lv1 := [(0, .ref (ad 0 0)), (1, .int a1), (2, .int x22), (3, .int (x12 + 1))]) rfl ?_
      exact ihrec13 _ _ h
def mX7_tally (a1 : Int32) (a2 : Int32) (μ : gM) : Option gM :=
  gChk (inb (9 + a1) 1616) <|
  gChk (inb (9 + a1) 1616) <|
  gLet (α := gM) (w3 μ 1 0 ((9 + a1).toNatClampNeg) ((μ 1 0 ((9 + a1).toNatClampNeg)) + a2)) fun μ3 =>
  some μ3
set_option maxHeartbeats 4000000 in
set_option maxRecDepth 100000 in
theorem kX7_tally (l : Launch) (D : va_G) (tc : Nat → ClassId) (sa : Nat → Nat) (ad : Nat → Nat → Nat) (hI : gI gE_R ad) (a1 : Int32) (a2 : Int32) (μ : gM) (μ' : gM) (h : mX7_tally a1 a2 μ = some μ') : gMet l yX7_tally cX7_tally 3 (none) ({ frames := 0, cells := 0, slots := 0, locals := 0 } : Room) D gE_R gkd_R tc ad grh_R sa [.ref (ad 0 0), .int a1, .int a2] μ (none) μ' := by
  refine gMet_of hI ⟨by decide +kernel, Nat.le_of_ble_eq_true rfl⟩ (fun p e s m args below meth c sz hr hlk => ?_)
  unfold mX7_tally at h
  show JR p l e ({ frames := 0, cells := 0, slots := 0, locals := 0 } : Room) s m args below meth c cX7_tally 3 RX7 D tc sa ad sz (none) μ' μ 0 [(0, .ref (ad 0 0)), (1, .int a1), (2, .int a2)] []
  refine J_aload_n (i := 0) (q := 0) (pc1 := 1) dX7_tally_0 rfl rfl rfl ?_
  refine J_getR (T := TX7) (f' := 1) (i' := 0) (pc1 := 4) eR0 rfl rfl inX7 1 (by decide) rfl rfl flX7_9 rfl dX7_tally_1 rfl ?_
  refine J_bipush (v := 9) (pc1 := 6) dX7_tally_4 (by decide) rfl ?_
  refine J_iload_n (i := 1) (q := 1) (pc1 := 7) dX7_tally_6 rfl rfl rfl ?_
  refine J_iadd (pc1 := 8) dX7_tally_7 rfl ?_
  refine J_dup2 (pc1 := 9) dX7_tally_8 rfl rfl rfl ?_
  obtain ⟨h1, h⟩ := gChk_s h
  refine J_iald (ix := ((9 + a1).toNatClampNeg)) (pc1 := 10) rfl eR1 rfl h1 dX7_tally_9 rfl ?_
  refine J_iload_n (i := 2) (q := 2) (pc1 := 11) dX7_tally_10 rfl rfl rfl ?_
  refine J_iadd (pc1 := 12) dX7_tally_11 rfl ?_
  obtain ⟨h2, h⟩ := gChk_s h
  refine J_iast (ix := ((9 + a1).toNatClampNeg)) (pc1 := 13) rfl eR1 rfl h2 dX7_tally_12 rfl ?_
  obtain ⟨μ3, e4, h⟩ := gLet_s h
  rw [← e4]
  clear e4
  cases h
  exact J_vret hr hlk dX7_tally_13
def mX7_part (a1 : Int32) (a2 : Int32) (μ : gM) : Option Int32 :=
  gChk (inb ((616 + (a1 * 25)) + a2) 1616) <|
  some (μ 1 0 (((616 + (a1 * 25)) + a2).toNatClampNeg))
set_option maxHeartbeats 4000000 in
set_option maxRecDepth 100000 in
theorem kX7_part (l : Launch) (D : va_G) (tc : Nat → ClassId) (sa : Nat → Nat) (ad : Nat → Nat → Nat) (hI : gI gE_R ad) (a1 : Int32) (a2 : Int32) (μ : gM) (r : Int32) (h : mX7_part a1 a2 μ = some r) : gMet l yX7_part cX7_part 3 (some .int) ({ frames := 0, cells := 0, slots := 0, locals := 0 } : Room) D gE_R gkd_R tc ad grh_R sa [.ref (ad 0 0), .int a1, .int a2] μ (some (.int r)) μ := by
  refine gMet_of hI ⟨by decide +kernel, Nat.le_of_ble_eq_true rfl⟩ (fun p e s m args below meth c sz hr hlk => ?_)
  unfold mX7_part at h
  show JR p l e ({ frames := 0, cells := 0, slots := 0, locals := 0 } : Room) s m args below meth c cX7_part 3 RX7 D tc sa ad sz (some (.int r)) μ μ 0 [(0, .ref (ad 0 0)), (1, .int a1), (2, .int a2)] []
  refine J_aload_n (i := 0) (q := 0) (pc1 := 1) dX7_part_0 rfl rfl rfl ?_
  refine J_getR (T := TX7) (f' := 1) (i' := 0) (pc1 := 4) eR0 rfl rfl inX7 1 (by decide) rfl rfl flX7_9 rfl dX7_part_1 rfl ?_
  refine J_sipush (v := 616) (pc1 := 7) dX7_part_4 (by decide) rfl ?_
  refine J_iload_n (i := 1) (q := 1) (pc1 := 8) dX7_part_7 rfl rfl rfl ?_
  refine J_bipush (v := 25) (pc1 := 10) dX7_part_8 (by decide) rfl ?_
  refine J_imul (pc1 := 11) dX7_part_10 rfl ?_
  refine J_iadd (pc1 := 12) dX7_part_11 rfl ?_
  refine J_iload_n (i := 2) (q := 2) (pc1 := 13) dX7_part_12 rfl rfl rfl ?_
  refine J_iadd (pc1 := 14) dX7_part_13 rfl ?_
  obtain ⟨h1, h⟩ := gChk_s h
  refine J_iald (ix := (((616 + (a1 * 25)) + a2).toNatClampNeg)) (pc1 := 15) rfl eR1 rfl h1 dX7_part_14 rfl ?_
  cases h
  exact J_iret hr hlk dX7_part_15
def mX7_put (a1 : Int32) (a2 : Int32) (a3 : Int32) (μ : gM) : Option gM :=
  gChk (inb ((616 + (a1 * 25)) + a2) 1616) <|
  gLet (α := gM) (w3 μ 1 0 (((616 + (a1 * 25)) + a2).toNatClampNeg) a3) fun μ2 =>
  some μ2
set_option maxHeartbeats 4000000 in
set_option maxRecDepth 100000 in
theorem kX7_put (l : Launch) (D : va_G) (tc : Nat → ClassId) (sa : Nat → Nat) (ad : Nat → Nat → Nat) (hI : gI gE_R ad) (a1 : Int32) (a2 : Int32) (a3 : Int32) (μ : gM) (μ' : gM) (h : mX7_put a1 a2 a3 μ = some μ') : gMet l yX7_put cX7_put 4 (none) ({ frames := 0, cells := 0, slots := 0, locals := 0 } : Room) D gE_R gkd_R tc ad grh_R sa [.ref (ad 0 0), .int a1, .int a2, .int a3] μ (none) μ' := by
  refine gMet_of hI ⟨by decide +kernel, Nat.le_of_ble_eq_true rfl⟩ (fun p e s m args below meth c sz hr hlk => ?_)
  unfold mX7_put at h
  show JR p l e ({ frames := 0, cells := 0, slots := 0, locals := 0 } : Room) s m args below meth c cX7_put 4 RX7 D tc sa ad sz (none) μ' μ 0 [(0, .ref (ad 0 0)), (1, .int a1), (2, .int a2), (3, .int a3)] []
  refine J_aload_n (i := 0) (q := 0) (pc1 := 1) dX7_put_0 rfl rfl rfl ?_
  refine J_getR (T := TX7) (f' := 1) (i' := 0) (pc1 := 4) eR0 rfl rfl inX7 1 (by decide) rfl rfl flX7_9 rfl dX7_put_1 rfl ?_
  refine J_sipush (v := 616) (pc1 := 7) dX7_put_4 (by decide) rfl ?_
  refine J_iload_n (i := 1) (q := 1) (pc1 := 8) dX7_put_7 rfl rfl rfl ?_
  refine J_bipush (v := 25) (pc1 := 10) dX7_put_8 (by decide) rfl ?_
  refine J_imul (pc1 := 11) dX7_put_10 rfl ?_
  refine J_iadd (pc1 := 12) dX7_put_11 rfl ?_
  refine J_iload_n (i := 2) (q := 2) (pc1 := 13) dX7_put_12 rfl rfl rfl ?_
  refine J_iadd (pc1 := 14) dX7_put_13 rfl ?_
  refine J_iload_n (i := 3) (q := 3) (pc1 := 15) dX7_put_14 rfl rfl rfl ?_
  obtain ⟨h1, h⟩ := gChk_s h
  refine J_iast (ix := (((616 + (a1 * 25)) + a2).toNatClampNeg)) (pc1 := 16) rfl eR1 rfl h1 dX7_put_15 rfl ?_
  obtain ⟨μ2, e3, h⟩ := gLet_s h
  rw [← e3]
  clear e3
  cases h
  exact J_vret hr hlk dX7_put_16
def mX7_send (a1 : Int32) (a2 : Int32) (a3 : Int32) (a4 : Int32) (a5 : Int32) (μ : gM) : Option (Int32 × gM) :=
  gBp (mX7_tally 1 1 μ) fun μ2 =>
  gChk (inb (4 + a2) 1616) <|
  gBp (mX7_has (μ2 1 0 ((4 + a2).toNatClampNeg)) a3 μ2) fun r5 =>
  gJon (fun (u9 : Unit) =>
      gBp (mX7_tally 2 1 μ2) fun μ8 =>
      some ((-1), μ8)) fun j6 =>
  if r5 = 0 then
    if (μ2 1 0 3) = 40 then
      j6 () 
    else
      gLet (α := Int32) (μ2 1 0 3) fun x12 =>
      gJon (fun (μ16 : gM) =>
          gBp (mX7_put x12 0 a1 μ16) fun μ19 =>
          gBp (mX7_put x12 1 a2 μ19) fun μ21 =>
          gBp (mX7_put x12 2 a3 μ21) fun μ23 =>
          gBp (mX7_of a2 2 μ23) fun r25 =>
          gBp (mX7_put x12 3 r25 μ23) fun μ27 =>
          gBp (mX7_put x12 4 ((μ27 1 0 0) + (μ27 1 0 1)) μ27) fun μ29 =>
          gBp (mX7_put x12 5 a4 μ29) fun μ31 =>
          gBp (mX7_put x12 6 a5 μ31) fun μ33 =>
          gBp (mX7_put x12 7 (μ33 1 0 0) μ33) fun μ35 =>
          gLet (α := gM) (w3 μ35 1 0 3 ((μ35 1 0 3) + 1)) fun μ36 =>
          some (x12, μ36)) fun j17 =>
      gFx2 (fun rec40 (x38 : Int32) (μ39 : gM) =>
          if 25 ≤ x38 then
            j17 μ39
          else
            gBp (mX7_put x12 x38 0 μ39) fun μ43 =>
            rec40 (x38 + 1) μ43) 1000000 0 μ2
  else
    j6 () 
set_option maxHeartbeats 4000000 in
set_option maxRecDepth 100000 in
theorem kX7_send (l : Launch) (D : va_G) (tc : Nat → ClassId) (sa : Nat → Nat) (ad : Nat → Nat → Nat) (hI : gI gE_R ad) (a1 : Int32) (a2 : Int32) (a3 : Int32) (a4 : Int32) (a5 : Int32) (μ : gM) (r : Int32) (μ' : gM) (h : mX7_send a1 a2 a3 a4 a5 μ = some (r, μ')) : gMet l yX7_send cX7_send 8 (some .int) ({ frames := 1, cells := 0, slots := 0, locals := 23 } : Room) D gE_R gkd_R tc ad grh_R sa [.ref (ad 0 0), .int a1, .int a2, .int a3, .int a4, .int a5] μ (some (.int r)) μ' := by
  refine gMet_of hI ⟨by decide +kernel, Nat.le_of_ble_eq_true rfl⟩ (fun p e s m args below meth c sz hr hlk => ?_)
  unfold mX7_send at h
  show JR p l e ({ frames := 1, cells := 0, slots := 0, locals := 23 } : Room) s m args below meth c cX7_send 8 RX7 D tc sa ad sz (some (.int r)) μ' μ 0 [(0, .ref (ad 0 0)), (1, .int a1), (2, .int a2), (3, .int a3), (4, .int a4), (5, .int a5)] []
  refine J_aload_n (i := 0) (q := 0) (pc1 := 1) dX7_send_0 rfl rfl rfl ?_
  refine J_iconst (v := 1) (pc1 := 2) dX7_send_1 (by decide) rfl ?_
  refine J_iconst (v := 1) (pc1 := 3) dX7_send_2 (by decide) rfl ?_
  obtain ⟨μ2, hc1, h⟩ := gBp_s h
  refine J_callV (As := [.int 1, .int 1]) (ad := ad) (f := 0) (i := 0) (st := []) (st1 := []) (pc1 := 6) (kX7_tally l D tc sa ad hI 1 1 μ μ2 hc1) wcX7_tally wlX7_86 eR0 rfl rfl rfl ⟨rfl, rfl, Nat.le_of_ble_eq_true rfl, Nat.le_of_ble_eq_true rfl⟩ ⟨Nat.zero_le _, Nat.zero_le _⟩ (Nat.le_of_ble_eq_true rfl) dX7_send_3 rfl rfl ?_
  refine J_aload_n (i := 0) (q := 0) (pc1 := 7) dX7_send_6 rfl rfl rfl ?_
  refine J_getR (T := TX7) (f' := 1) (i' := 0) (pc1 := 10) eR0 rfl rfl inX7 1 (by decide) rfl rfl flX7_9 rfl dX7_send_7 rfl ?_
  refine J_iconst (v := 4) (pc1 := 11) dX7_send_10 (by decide) rfl ?_
  refine J_iload_n (i := 2) (q := 2) (pc1 := 12) dX7_send_11 rfl rfl rfl ?_
  refine J_iadd (pc1 := 13) dX7_send_12 rfl ?_
  obtain ⟨h3, h⟩ := gChk_s h
  refine J_iald (ix := ((4 + a2).toNatClampNeg)) (pc1 := 14) rfl eR1 rfl h3 dX7_send_13 rfl ?_
  refine J_iload_n (i := 3) (q := 3) (pc1 := 15) dX7_send_14 rfl rfl rfl ?_
  obtain ⟨r5, hc4, h⟩ := gBp_s h
  refine J_callS (As := [.int (μ2 1 0 ((4 + a2).toNatClampNeg)), .int a3]) (st := []) (st1 := [.int r5]) (pc1 := 18) (kX7_has l D tc sa ad hI (μ2 1 0 ((4 + a2).toNatClampNeg)) a3 μ2 r5 hc4) wcX7_has wlX7_89 rfl ⟨rfl, rfl, Nat.le_of_ble_eq_true rfl, Nat.le_of_ble_eq_true rfl⟩ ⟨Nat.zero_le _, Nat.zero_le _⟩ (Nat.le_of_ble_eq_true rfl) dX7_send_15 rfl rfl ?_
  obtain ⟨j6, ej6, h⟩ := gJon_s h
  have kj6 : ∀ (u9 : Unit), j6 u9 = some (r, μ') → JR p l e ({ frames := 1, cells := 0, slots := 0, locals := 23 } : Room) s m args below meth c cX7_send 8 RX7 D tc sa ad sz (some (.int r)) μ' μ2 32 [(0, .ref (ad 0 0))] [] := by
    intro u9 h
    rw [ej6] at h
    try dsimp only at h
    refine J_aload_n (i := 0) (q := 0) (pc1 := 33) dX7_send_32 rfl rfl rfl ?_
    refine J_iconst (v := 2) (pc1 := 34) dX7_send_33 (by decide) rfl ?_
    refine J_iconst (v := 1) (pc1 := 35) dX7_send_34 (by decide) rfl ?_
    obtain ⟨μ8, hc7, h⟩ := gBp_s h
    refine J_callV (As := [.int 2, .int 1]) (ad := ad) (f := 0) (i := 0) (st := []) (st1 := []) (pc1 := 38) (kX7_tally l D tc sa ad hI 2 1 μ2 μ8 hc7) wcX7_tally wlX7_86 eR0 rfl rfl rfl ⟨rfl, rfl, Nat.le_of_ble_eq_true rfl, Nat.le_of_ble_eq_true rfl⟩ ⟨Nat.zero_le _, Nat.zero_le _⟩ (Nat.le_of_ble_eq_true rfl) dX7_send_35 rfl rfl ?_
    refine J_iconst (v := (-1)) (pc1 := 39) dX7_send_38 (by decide) rfl ?_
    cases h
    exact J_iret hr hlk dX7_send_39
  clear ej6
  refine J_if_ne (tgt := 32) (pc1 := 21) dX7_send_18 (by decide) (fun q10 => ?_) rfl (fun q10 => ?_)
  · rw [if_neg q10] at h
    refine J_sub [0] (lv1 := [(0, .ref (ad 0 0))]) rfl ?_
    exact kj6 ()  h
  · rw [if_pos q10] at h
    refine J_aload_n (i := 0) (q := 0) (pc1 := 22) dX7_send_21 rfl rfl rfl ?_
    refine J_getR (T := TX7) (f' := 1) (i' := 0) (pc1 := 25) eR0 rfl rfl inX7 1 (by decide) rfl rfl flX7_9 rfl dX7_send_22 rfl ?_
    refine J_iconst (v := 3) (pc1 := 26) dX7_send_25 (by decide) rfl ?_
    refine J_iald (ix := 3) (pc1 := 27) (by decide) eR1 rfl (by decide : inb 3 1616) dX7_send_26 rfl ?_
    refine J_bipush (v := 40) (pc1 := 29) dX7_send_27 (by decide) rfl ?_
    refine J_icmp_ne (tgt := 40) (pc1 := 32) dX7_send_29 (by decide) (fun q11 => ?_) rfl (fun q11 => ?_)
    · rw [if_neg q11] at h
      refine J_aload_n (i := 0) (q := 0) (pc1 := 41) dX7_send_40 rfl rfl rfl ?_
      refine J_getR (T := TX7) (f' := 1) (i' := 0) (pc1 := 44) eR0 rfl rfl inX7 1 (by decide) rfl rfl flX7_9 rfl dX7_send_41 rfl ?_
      refine J_iconst (v := 3) (pc1 := 45) dX7_send_44 (by decide) rfl ?_
      refine J_iald (ix := 3) (pc1 := 46) (by decide) eR1 rfl (by decide : inb 3 1616) dX7_send_45 rfl ?_
      obtain ⟨x12, e14, h⟩ := gLet_s h
      refine J_top (fun y13 e15 => ?_)
      have e15x : x12 = y13 := (e15.trans e14.symm).symm
      subst e15x
      refine J_istore (i := 6) (lv1 := [(6, .int x12), (0, .ref (ad 0 0)), (1, .int a1), (2, .int a2), (3, .int a3), (4, .int a4), (5, .int a5)]) (pc1 := 48) dX7_send_46 (by decide) rfl rfl ?_
      refine J_iconst (v := 0) (pc1 := 49) dX7_send_48 (by decide) rfl ?_
      refine J_istore (i := 7) (lv1 := [(7, .int 0), (6, .int x12), (0, .ref (ad 0 0)), (1, .int a1), (2, .int a2), (3, .int a3), (4, .int a4), (5, .int a5)]) (pc1 := 51) dX7_send_49 (by decide) rfl rfl ?_
      obtain ⟨j17, ej17, h⟩ := gJon_s h
      have kj17 : ∀ (μ16 : gM), j17 μ16 = some (r, μ') → JR p l e ({ frames := 1, cells := 0, slots := 0, locals := 23 } : Room) s m args below meth c cX7_send 8 RX7 D tc sa ad sz (some (.int r)) μ' μ16 73 [(0, .ref (ad 0 0)), (1, .int a1), (2, .int a2), (3, .int a3), (4, .int a4), (5, .int a5), (6, .int x12)] [] := by
        intro μ16 h
        rw [ej17] at h
        try dsimp only at h
        refine J_aload_n (i := 0) (q := 0) (pc1 := 74) dX7_send_73 rfl rfl rfl ?_
        refine J_iload (i := 6) (q := 6) (pc1 := 76) dX7_send_74 rfl rfl ?_
        refine J_iconst (v := 0) (pc1 := 77) dX7_send_76 (by decide) rfl ?_
        refine J_iload_n (i := 1) (q := 1) (pc1 := 78) dX7_send_77 rfl rfl rfl ?_
        obtain ⟨μ19, hc18, h⟩ := gBp_s h
        refine J_callV (As := [.int x12, .int 0, .int a1]) (ad := ad) (f := 0) (i := 0) (st := []) (st1 := []) (pc1 := 81) (kX7_put l D tc sa ad hI x12 0 a1 μ16 μ19 hc18) wcX7_put wlX7_92 eR0 rfl rfl rfl ⟨rfl, rfl, Nat.le_of_ble_eq_true rfl, Nat.le_of_ble_eq_true rfl⟩ ⟨Nat.zero_le _, Nat.zero_le _⟩ (Nat.le_of_ble_eq_true rfl) dX7_send_78 rfl rfl ?_
        refine J_aload_n (i := 0) (q := 0) (pc1 := 82) dX7_send_81 rfl rfl rfl ?_
        refine J_iload (i := 6) (q := 6) (pc1 := 84) dX7_send_82 rfl rfl ?_
        refine J_iconst (v := 1) (pc1 := 85) dX7_send_84 (by decide) rfl ?_
        refine J_iload_n (i := 2) (q := 2) (pc1 := 86) dX7_send_85 rfl rfl rfl ?_
        obtain ⟨μ21, hc20, h⟩ := gBp_s h
        refine J_callV (As := [.int x12, .int 1, .int a2]) (ad := ad) (f := 0) (i := 0) (st := []) (st1 := []) (pc1 := 89) (kX7_put l D tc sa ad hI x12 1 a2 μ19 μ21 hc20) wcX7_put wlX7_92 eR0 rfl rfl rfl ⟨rfl, rfl, Nat.le_of_ble_eq_true rfl, Nat.le_of_ble_eq_true rfl⟩ ⟨Nat.zero_le _, Nat.zero_le _⟩ (Nat.le_of_ble_eq_true rfl) dX7_send_86 rfl rfl ?_
        refine J_aload_n (i := 0) (q := 0) (pc1 := 90) dX7_send_89 rfl rfl rfl ?_
        refine J_iload (i := 6) (q := 6) (pc1 := 92) dX7_send_90 rfl rfl ?_
        refine J_iconst (v := 2) (pc1 := 93) dX7_send_92 (by decide) rfl ?_
        refine J_iload_n (i := 3) (q := 3) (pc1 := 94) dX7_send_93 rfl rfl rfl ?_
        obtain ⟨μ23, hc22, h⟩ := gBp_s h
        refine J_callV (As := [.int x12, .int 2, .int a3]) (ad := ad) (f := 0) (i := 0) (st := []) (st1 := []) (pc1 := 97) (kX7_put l D tc sa ad hI x12 2 a3 μ21 μ23 hc22) wcX7_put wlX7_92 eR0 rfl rfl rfl ⟨rfl, rfl, Nat.le_of_ble_eq_true rfl, Nat.le_of_ble_eq_true rfl⟩ ⟨Nat.zero_le _, Nat.zero_le _⟩ (Nat.le_of_ble_eq_true rfl) dX7_send_94 rfl rfl ?_
        refine J_aload_n (i := 0) (q := 0) (pc1 := 98) dX7_send_97 rfl rfl rfl ?_
        refine J_iload (i := 6) (q := 6) (pc1 := 100) dX7_send_98 rfl rfl ?_
        refine J_iconst (v := 3) (pc1 := 101) dX7_send_100 (by decide) rfl ?_
        refine J_aload_n (i := 0) (q := 0) (pc1 := 102) dX7_send_101 rfl rfl rfl ?_
        refine J_iload_n (i := 2) (q := 2) (pc1 := 103) dX7_send_102 rfl rfl rfl ?_
        refine J_iconst (v := 2) (pc1 := 104) dX7_send_103 (by decide) rfl ?_
        obtain ⟨r25, hc24, h⟩ := gBp_s h
        refine J_callV (As := [.int a2, .int 2]) (ad := ad) (f := 0) (i := 0) (st := [.int 3, .int x12, .ref (ad 0 0)]) (st1 := [.int r25, .int 3, .int x12, .ref (ad 0 0)]) (pc1 := 107) (kX7_of l D tc sa ad hI a2 2 μ23 r25 hc24) wcX7_of wlX7_38 eR0 rfl rfl rfl ⟨rfl, rfl, Nat.le_of_ble_eq_true rfl, Nat.le_of_ble_eq_true rfl⟩ ⟨Nat.zero_le _, Nat.zero_le _⟩ (Nat.le_of_ble_eq_true rfl) dX7_send_104 rfl rfl ?_
        obtain ⟨μ27, hc26, h⟩ := gBp_s h
        refine J_callV (As := [.int x12, .int 3, .int r25]) (ad := ad) (f := 0) (i := 0) (st := []) (st1 := []) (pc1 := 110) (kX7_put l D tc sa ad hI x12 3 r25 μ23 μ27 hc26) wcX7_put wlX7_92 eR0 rfl rfl rfl ⟨rfl, rfl, Nat.le_of_ble_eq_true rfl, Nat.le_of_ble_eq_true rfl⟩ ⟨Nat.zero_le _, Nat.zero_le _⟩ (Nat.le_of_ble_eq_true rfl) dX7_send_107 rfl rfl ?_
        refine J_aload_n (i := 0) (q := 0) (pc1 := 111) dX7_send_110 rfl rfl rfl ?_
        refine J_iload (i := 6) (q := 6) (pc1 := 113) dX7_send_111 rfl rfl ?_
        refine J_iconst (v := 4) (pc1 := 114) dX7_send_113 (by decide) rfl ?_
        refine J_aload_n (i := 0) (q := 0) (pc1 := 115) dX7_send_114 rfl rfl rfl ?_
        refine J_getR (T := TX7) (f' := 1) (i' := 0) (pc1 := 118) eR0 rfl rfl inX7 1 (by decide) rfl rfl flX7_9 rfl dX7_send_115 rfl ?_
        refine J_iconst (v := 0) (pc1 := 119) dX7_send_118 (by decide) rfl ?_
        refine J_iald (ix := 0) (pc1 := 120) (by decide) eR1 rfl (by decide : inb 0 1616) dX7_send_119 rfl ?_
        refine J_aload_n (i := 0) (q := 0) (pc1 := 121) dX7_send_120 rfl rfl rfl ?_
        refine J_getR (T := TX7) (f' := 1) (i' := 0) (pc1 := 124) eR0 rfl rfl inX7 1 (by decide) rfl rfl flX7_9 rfl dX7_send_121 rfl ?_
        refine J_iconst (v := 1) (pc1 := 125) dX7_send_124 (by decide) rfl ?_
        refine J_iald (ix := 1) (pc1 := 126) (by decide) eR1 rfl (by decide : inb 1 1616) dX7_send_125 rfl ?_
        refine J_iadd (pc1 := 127) dX7_send_126 rfl ?_
        obtain ⟨μ29, hc28, h⟩ := gBp_s h
        refine J_callV (As := [.int x12, .int 4, .int ((μ27 1 0 0) + (μ27 1 0 1))]) (ad := ad) (f := 0) (i := 0) (st := []) (st1 := []) (pc1 := 130) (kX7_put l D tc sa ad hI x12 4 ((μ27 1 0 0) + (μ27 1 0 1)) μ27 μ29 hc28) wcX7_put wlX7_92 eR0 rfl rfl rfl ⟨rfl, rfl, Nat.le_of_ble_eq_true rfl, Nat.le_of_ble_eq_true rfl⟩ ⟨Nat.zero_le _, Nat.zero_le _⟩ (Nat.le_of_ble_eq_true rfl) dX7_send_127 rfl rfl ?_
        refine J_aload_n (i := 0) (q := 0) (pc1 := 131) dX7_send_130 rfl rfl rfl ?_
        refine J_iload (i := 6) (q := 6) (pc1 := 133) dX7_send_131 rfl rfl ?_
        refine J_iconst (v := 5) (pc1 := 134) dX7_send_133 (by decide) rfl ?_
        refine J_iload (i := 4) (q := 4) (pc1 := 136) dX7_send_134 rfl rfl ?_
        obtain ⟨μ31, hc30, h⟩ := gBp_s h
        refine J_callV (As := [.int x12, .int 5, .int a4]) (ad := ad) (f := 0) (i := 0) (st := []) (st1 := []) (pc1 := 139) (kX7_put l D tc sa ad hI x12 5 a4 μ29 μ31 hc30) wcX7_put wlX7_92 eR0 rfl rfl rfl ⟨rfl, rfl, Nat.le_of_ble_eq_true rfl, Nat.le_of_ble_eq_true rfl⟩ ⟨Nat.zero_le _, Nat.zero_le _⟩ (Nat.le_of_ble_eq_true rfl) dX7_send_136 rfl rfl ?_
        refine J_aload_n (i := 0) (q := 0) (pc1 := 140) dX7_send_139 rfl rfl rfl ?_
        refine J_iload (i := 6) (q := 6) (pc1 := 142) dX7_send_140 rfl rfl ?_
        refine J_bipush (v := 6) (pc1 := 144) dX7_send_142 (by decide) rfl ?_
        refine J_iload (i := 5) (q := 5) (pc1 := 146) dX7_send_144 rfl rfl ?_
        obtain ⟨μ33, hc32, h⟩ := gBp_s h
        refine J_callV (As := [.int x12, .int 6, .int a5]) (ad := ad) (f := 0) (i := 0) (st := []) (st1 := []) (pc1 := 149) (kX7_put l D tc sa ad hI x12 6 a5 μ31 μ33 hc32) wcX7_put wlX7_92 eR0 rfl rfl rfl ⟨rfl, rfl, Nat.le_of_ble_eq_true rfl, Nat.le_of_ble_eq_true rfl⟩ ⟨Nat.zero_le _, Nat.zero_le _⟩ (Nat.le_of_ble_eq_true rfl) dX7_send_146 rfl rfl ?_
        refine J_aload_n (i := 0) (q := 0) (pc1 := 150) dX7_send_149 rfl rfl rfl ?_
        refine J_iload (i := 6) (q := 6) (pc1 := 152) dX7_send_150 rfl rfl ?_
        refine J_bipush (v := 7) (pc1 := 154) dX7_send_152 (by decide) rfl ?_
        refine J_aload_n (i := 0) (q := 0) (pc1 := 155) dX7_send_154 rfl rfl rfl ?_
        refine J_getR (T := TX7) (f' := 1) (i' := 0) (pc1 := 158) eR0 rfl rfl inX7 1 (by decide) rfl rfl flX7_9 rfl dX7_send_155 rfl ?_
        refine J_iconst (v := 0) (pc1 := 159) dX7_send_158 (by decide) rfl ?_
        refine J_iald (ix := 0) (pc1 := 160) (by decide) eR1 rfl (by decide : inb 0 1616) dX7_send_159 rfl ?_
        obtain ⟨μ35, hc34, h⟩ := gBp_s h
        refine J_callV (As := [.int x12, .int 7, .int (μ33 1 0 0)]) (ad := ad) (f := 0) (i := 0) (st := []) (st1 := []) (pc1 := 163) (kX7_put l D tc sa ad hI x12 7 (μ33 1 0 0) μ33 μ35 hc34) wcX7_put wlX7_92 eR0 rfl rfl rfl ⟨rfl, rfl, Nat.le_of_ble_eq_true rfl, Nat.le_of_ble_eq_true rfl⟩ ⟨Nat.zero_le _, Nat.zero_le _⟩ (Nat.le_of_ble_eq_true rfl) dX7_send_160 rfl rfl ?_
        refine J_aload_n (i := 0) (q := 0) (pc1 := 164) dX7_send_163 rfl rfl rfl ?_
        refine J_getR (T := TX7) (f' := 1) (i' := 0) (pc1 := 167) eR0 rfl rfl inX7 1 (by decide) rfl rfl flX7_9 rfl dX7_send_164 rfl ?_
        refine J_iconst (v := 3) (pc1 := 168) dX7_send_167 (by decide) rfl ?_
        refine J_dup2 (pc1 := 169) dX7_send_168 rfl rfl rfl ?_
        refine J_iald (ix := 3) (pc1 := 170) (by decide) eR1 rfl (by decide : inb 3 1616) dX7_send_169 rfl ?_
        refine J_iconst (v := 1) (pc1 := 171) dX7_send_170 (by decide) rfl ?_
        refine J_iadd (pc1 := 172) dX7_send_171 rfl ?_
        refine J_iast (ix := 3) (pc1 := 173) (by decide) eR1 rfl (by decide : inb 3 1616) dX7_send_172 rfl ?_
        obtain ⟨μ36, e37, h⟩ := gLet_s h
        rw [← e37]
        clear e37
        refine J_iload (i := 6) (q := 6) (pc1 := 175) dX7_send_173 rfl rfl ?_
        cases h
        exact J_iret hr hlk dX7_send_175
      clear ej17
      refine J_sub [2, 3, 4, 5, 6, 7, 1, 0] (lv1 := [(0, .ref (ad 0 0)), (1, .int a1), (2, .int a2), (3, .int a3), (4, .int a4), (5, .int a5), (6, .int x12), (7, .int 0)]) rfl ?_
      refine gFx2_s (P := fun x38 μ39 => JR p l e ({ frames := 1, cells := 0, slots := 0, locals := 23 } : Room) s m args below meth c cX7_send 8 RX7 D tc sa ad sz (some (.int r)) μ' μ39 51 [(0, .ref (ad 0 0)), (1, .int a1), (2, .int a2), (3, .int a3), (4, .int a4), (5, .int a5), (6, .int x12), (7, .int x38)] []) (fun rec40 ihrec40 x38 μ39 h => ?_) _ _ _ h
      try dsimp only at h
      refine J_iload (i := 7) (q := 7) (pc1 := 53) dX7_send_51 rfl rfl ?_
      refine J_bipush (v := 25) (pc1 := 55) dX7_send_53 (by decide) rfl ?_
      refine J_icmp_ge (tgt := 73) (pc1 := 58) dX7_send_55 (by decide) (fun q41 => ?_) rfl (fun q41 => ?_)
      · rw [if_pos q41] at h
        refine J_sub [0, 1, 2, 3, 4, 5, 6] (lv1 := [(0, .ref (ad 0 0)), (1, .int a1), (2, .int a2), (3, .int a3), (4, .int a4), (5, .int a5), (6, .int x12)]) rfl ?_
        exact kj17 _ h
      · rw [if_neg q41] at h
        refine J_aload_n (i := 0) (q := 0) (pc1 := 59) dX7_send_58 rfl rfl rfl ?_
        refine J_iload (i := 6) (q := 6) (pc1 := 61) dX7_send_59 rfl rfl ?_
        refine J_iload (i := 7) (q := 7) (pc1 := 63) dX7_send_61 rfl rfl ?_
        refine J_iconst (v := 0) (pc1 := 64) dX7_send_63 (by decide) rfl ?_
        obtain ⟨μ43, hc42, h⟩ := gBp_s h
        refine J_callV (As := [.int x12, .int x38, .int 0]) (ad := ad) (f := 0) (i := 0) (st := []) (st1 := []) (pc1 := 67) (kX7_put l D tc sa ad hI x12 x38 0 μ39 μ43 hc42) wcX7_put wlX7_92 eR0 rfl rfl rfl ⟨rfl, rfl, Nat.le_of_ble_eq_true rfl, Nat.le_of_ble_eq_true rfl⟩ ⟨Nat.zero_le _, Nat.zero_le _⟩ (Nat.le_of_ble_eq_true rfl) dX7_send_64 rfl rfl ?_
        refine J_iinc (i := 7) (q := 7) (v := x38 + 1) (lv1 := [(7, .int (x38 + 1)), (0, .ref (ad 0 0)), (1, .int a1), (2, .int a2), (3, .int a3), (4, .int a4), (5, .int a5), (6, .int x12)]) (pc1 := 70) dX7_send_67 rfl rfl (by decide) rfl rfl ?_
        refine J_goto (tgt := 51) dX7_send_70 (by decide) ?_
        refine J_sub [1, 2, 3, 4, 5, 6, 7, 0] (lv1 := [(0, .ref (ad 0 0)), (1, .int a1), (2, .int a2), (3, .int a3), (4, .int a4), (5, .int a5), (6, .int x12), (7, .int (x38 + 1))]) rfl ?_
        exact ihrec40 _ _ h
    · rw [if_pos q11] at h
      refine J_sub [0] (lv1 := [(0, .ref (ad 0 0))]) rfl ?_
      exact kj6 ()  h
def mX7_remove (a1 : Int32) (μ : gM) : Option gM :=
  gLet (α := gM) (w3 μ 1 0 3 ((μ 1 0 3) - 1)) fun μ1 =>
  gLet (α := Int32) (616 + (a1 * 25)) fun x3 =>
  gJon (fun (μ7 : gM) =>
      some μ7) fun j8 =>
  gFx2 (fun rec11 (x9 : Int32) (μ10 : gM) =>
      if (616 + ((μ10 1 0 3) * 25)) ≤ x9 then
        j8 μ10
      else
        gChk (inb (x9 + 25) 1616) <|
        gChk (inb x9 1616) <|
        gLet (α := gM) (w3 μ10 1 0 (x9.toNatClampNeg) (μ10 1 0 ((x9 + 25).toNatClampNeg))) fun μ15 =>
        rec11 (x9 + 1) μ15) 1000000 x3 μ1
set_option maxHeartbeats 4000000 in
set_option maxRecDepth 100000 in
theorem kX7_remove (l : Launch) (D : va_G) (tc : Nat → ClassId) (sa : Nat → Nat) (ad : Nat → Nat → Nat) (hI : gI gE_R ad) (a1 : Int32) (μ : gM) (μ' : gM) (h : mX7_remove a1 μ = some μ') : gMet l yX7_remove cX7_remove 3 (none) ({ frames := 0, cells := 0, slots := 0, locals := 0 } : Room) D gE_R gkd_R tc ad grh_R sa [.ref (ad 0 0), .int a1] μ (none) μ' := by
  refine gMet_of hI ⟨by decide +kernel, Nat.le_of_ble_eq_true rfl⟩ (fun p e s m args below meth c sz hr hlk => ?_)
  unfold mX7_remove at h
  show JR p l e ({ frames := 0, cells := 0, slots := 0, locals := 0 } : Room) s m args below meth c cX7_remove 3 RX7 D tc sa ad sz (none) μ' μ 0 [(0, .ref (ad 0 0)), (1, .int a1)] []
  refine J_aload_n (i := 0) (q := 0) (pc1 := 1) dX7_remove_0 rfl rfl rfl ?_
  refine J_getR (T := TX7) (f' := 1) (i' := 0) (pc1 := 4) eR0 rfl rfl inX7 1 (by decide) rfl rfl flX7_9 rfl dX7_remove_1 rfl ?_
  refine J_iconst (v := 3) (pc1 := 5) dX7_remove_4 (by decide) rfl ?_
  refine J_dup2 (pc1 := 6) dX7_remove_5 rfl rfl rfl ?_
  refine J_iald (ix := 3) (pc1 := 7) (by decide) eR1 rfl (by decide : inb 3 1616) dX7_remove_6 rfl ?_
  refine J_iconst (v := 1) (pc1 := 8) dX7_remove_7 (by decide) rfl ?_
  refine J_isub (pc1 := 9) dX7_remove_8 rfl ?_
  refine J_iast (ix := 3) (pc1 := 10) (by decide) eR1 rfl (by decide : inb 3 1616) dX7_remove_9 rfl ?_
  obtain ⟨μ1, e2, h⟩ := gLet_s h
  rw [← e2]
  clear e2
  refine J_sipush (v := 616) (pc1 := 13) dX7_remove_10 (by decide) rfl ?_
  refine J_iload_n (i := 1) (q := 1) (pc1 := 14) dX7_remove_13 rfl rfl rfl ?_
  refine J_bipush (v := 25) (pc1 := 16) dX7_remove_14 (by decide) rfl ?_
  refine J_imul (pc1 := 17) dX7_remove_16 rfl ?_
  refine J_iadd (pc1 := 18) dX7_remove_17 rfl ?_
  obtain ⟨x3, e5, h⟩ := gLet_s h
  refine J_top (fun y4 e6 => ?_)
  have e6x : x3 = y4 := (e6.trans e5.symm).symm
  subst e6x
  refine J_istore_n (i := 2) (lv1 := [(2, .int x3), (0, .ref (ad 0 0)), (1, .int a1)]) (pc1 := 19) dX7_remove_18 rfl (by decide) rfl rfl ?_
  obtain ⟨j8, ej8, h⟩ := gJon_s h
  have kj8 : ∀ (μ7 : gM), j8 μ7 = some μ' → JR p l e ({ frames := 0, cells := 0, slots := 0, locals := 0 } : Room) s m args below meth c cX7_remove 3 RX7 D tc sa ad sz (none) μ' μ7 57 [] [] := by
    intro μ7 h
    rw [ej8] at h
    try dsimp only at h
    cases h
    exact J_vret hr hlk dX7_remove_57
  clear ej8
  refine J_sub [1, 0] (lv1 := [(0, .ref (ad 0 0)), (2, .int x3)]) rfl ?_
  refine gFx2_s (P := fun x9 μ10 => JR p l e ({ frames := 0, cells := 0, slots := 0, locals := 0 } : Room) s m args below meth c cX7_remove 3 RX7 D tc sa ad sz (none) μ' μ10 19 [(0, .ref (ad 0 0)), (2, .int x9)] []) (fun rec11 ihrec11 x9 μ10 h => ?_) _ _ _ h
  try dsimp only at h
  refine J_iload_n (i := 2) (q := 1) (pc1 := 20) dX7_remove_19 rfl rfl rfl ?_
  refine J_sipush (v := 616) (pc1 := 23) dX7_remove_20 (by decide) rfl ?_
  refine J_aload_n (i := 0) (q := 0) (pc1 := 24) dX7_remove_23 rfl rfl rfl ?_
  refine J_getR (T := TX7) (f' := 1) (i' := 0) (pc1 := 27) eR0 rfl rfl inX7 1 (by decide) rfl rfl flX7_9 rfl dX7_remove_24 rfl ?_
  refine J_iconst (v := 3) (pc1 := 28) dX7_remove_27 (by decide) rfl ?_
  refine J_iald (ix := 3) (pc1 := 29) (by decide) eR1 rfl (by decide : inb 3 1616) dX7_remove_28 rfl ?_
  refine J_bipush (v := 25) (pc1 := 31) dX7_remove_29 (by decide) rfl ?_
  refine J_imul (pc1 := 32) dX7_remove_31 rfl ?_
  refine J_iadd (pc1 := 33) dX7_remove_32 rfl ?_
  refine J_icmp_ge (tgt := 57) (pc1 := 36) dX7_remove_33 (by decide) (fun q12 => ?_) rfl (fun q12 => ?_)
  · rw [if_pos q12] at h
    refine J_sub [] (lv1 := []) rfl ?_
    exact kj8 _ h
  · rw [if_neg q12] at h
    refine J_aload_n (i := 0) (q := 0) (pc1 := 37) dX7_remove_36 rfl rfl rfl ?_
    refine J_getR (T := TX7) (f' := 1) (i' := 0) (pc1 := 40) eR0 rfl rfl inX7 1 (by decide) rfl rfl flX7_9 rfl dX7_remove_37 rfl ?_
    refine J_iload_n (i := 2) (q := 1) (pc1 := 41) dX7_remove_40 rfl rfl rfl ?_
    refine J_aload_n (i := 0) (q := 0) (pc1 := 42) dX7_remove_41 rfl rfl rfl ?_
    refine J_getR (T := TX7) (f' := 1) (i' := 0) (pc1 := 45) eR0 rfl rfl inX7 1 (by decide) rfl rfl flX7_9 rfl dX7_remove_42 rfl ?_
    refine J_iload_n (i := 2) (q := 1) (pc1 := 46) dX7_remove_45 rfl rfl rfl ?_
    refine J_bipush (v := 25) (pc1 := 48) dX7_remove_46 (by decide) rfl ?_
    refine J_iadd (pc1 := 49) dX7_remove_48 rfl ?_
    obtain ⟨h13, h⟩ := gChk_s h
    refine J_iald (ix := ((x9 + 25).toNatClampNeg)) (pc1 := 50) rfl eR1 rfl h13 dX7_remove_49 rfl ?_
    obtain ⟨h14, h⟩ := gChk_s h
    refine J_iast (ix := (x9.toNatClampNeg)) (pc1 := 51) rfl eR1 rfl h14 dX7_remove_50 rfl ?_
    obtain ⟨μ15, e16, h⟩ := gLet_s h
    rw [← e16]
    clear e16
    refine J_iinc (i := 2) (q := 1) (v := x9 + 1) (lv1 := [(2, .int (x9 + 1)), (0, .ref (ad 0 0))]) (pc1 := 54) dX7_remove_51 rfl rfl (by decide) rfl rfl ?_
    refine J_goto (tgt := 19) dX7_remove_54 (by decide) ?_
    refine J_sub [1, 0] (lv1 := [(0, .ref (ad 0 0)), (2, .int (x9 + 1))]) rfl ?_
    exact ihrec11 _ _ h
def mX7_sendSnapshot (a1 : Int32) (a2 : Int32) (μ : gM) : Option gM :=
  gBp (mX7_of a1 7 μ) fun r2 =>
  gBp (mX7_of a1 8 μ) fun r4 =>
  gBd (mX7_send 4 a1 a2 r2 r4 μ) fun r6 μ7 =>
  if r6 < 0 then
    some μ7
  else
    gBp (mX7_of a1 9 μ7) fun r10 =>
    gBp (mX7_put r6 10 r10 μ7) fun μ12 =>
    gBp (mX7_of a1 10 μ12) fun r14 =>
    gBp (mX7_put r6 11 r14 μ12) fun μ16 =>
    gBp (mX7_of a1 11 μ16) fun r18 =>
    gBp (mX7_put r6 12 r18 μ16) fun μ20 =>
    some μ20
set_option maxHeartbeats 4000000 in
set_option maxRecDepth 100000 in
theorem kX7_sendSnapshot (l : Launch) (D : va_G) (tc : Nat → ClassId) (sa : Nat → Nat) (ad : Nat → Nat → Nat) (hI : gI gE_R ad) (a1 : Int32) (a2 : Int32) (μ : gM) (μ' : gM) (h : mX7_sendSnapshot a1 a2 μ = some μ') : gMet l yX7_sendSnapshot cX7_sendSnapshot 4 (none) ({ frames := 2, cells := 0, slots := 0, locals := 50 } : Room) D gE_R gkd_R tc ad grh_R sa [.ref (ad 0 0), .int a1, .int a2] μ (none) μ' := by
  refine gMet_of hI ⟨by decide +kernel, Nat.le_of_ble_eq_true rfl⟩ (fun p e s m args below meth c sz hr hlk => ?_)
  unfold mX7_sendSnapshot at h
  show JR p l e ({ frames := 2, cells := 0, slots := 0, locals := 50 } : Room) s m args below meth c cX7_sendSnapshot 4 RX7 D tc sa ad sz (none) μ' μ 0 [(0, .ref (ad 0 0)), (1, .int a1), (2, .int a2)] []
  refine J_aload_n (i := 0) (q := 0) (pc1 := 1) dX7_sendSnapshot_0 rfl rfl rfl ?_
  refine J_iconst (v := 4) (pc1 := 2) dX7_sendSnapshot_1 (by decide) rfl ?_
  refine J_iload_n (i := 1) (q := 1) (pc1 := 3) dX7_sendSnapshot_2 rfl rfl rfl ?_
  refine J_iload_n (i := 2) (q := 2) (pc1 := 4) dX7_sendSnapshot_3 rfl rfl rfl ?_
  refine J_aload_n (i := 0) (q := 0) (pc1 := 5) dX7_sendSnapshot_4 rfl rfl rfl ?_
  refine J_iload_n (i := 1) (q := 1) (pc1 := 6) dX7_sendSnapshot_5 rfl rfl rfl ?_
  refine J_bipush (v := 7) (pc1 := 8) dX7_sendSnapshot_6 (by decide) rfl ?_
  obtain ⟨r2, hc1, h⟩ := gBp_s h
  refine J_callV (As := [.int a1, .int 7]) (ad := ad) (f := 0) (i := 0) (st := [.int a2, .int a1, .int 4, .ref (ad 0 0)]) (st1 := [.int r2, .int a2, .int a1, .int 4, .ref (ad 0 0)]) (pc1 := 11) (kX7_of l D tc sa ad hI a1 7 μ r2 hc1) wcX7_of wlX7_38 eR0 rfl rfl rfl ⟨rfl, rfl, Nat.le_of_ble_eq_true rfl, Nat.le_of_ble_eq_true rfl⟩ ⟨Nat.zero_le _, Nat.zero_le _⟩ (Nat.le_of_ble_eq_true rfl) dX7_sendSnapshot_8 rfl rfl ?_
  refine J_aload_n (i := 0) (q := 0) (pc1 := 12) dX7_sendSnapshot_11 rfl rfl rfl ?_
  refine J_iload_n (i := 1) (q := 1) (pc1 := 13) dX7_sendSnapshot_12 rfl rfl rfl ?_
  refine J_bipush (v := 8) (pc1 := 15) dX7_sendSnapshot_13 (by decide) rfl ?_
  obtain ⟨r4, hc3, h⟩ := gBp_s h
  refine J_callV (As := [.int a1, .int 8]) (ad := ad) (f := 0) (i := 0) (st := [.int r2, .int a2, .int a1, .int 4, .ref (ad 0 0)]) (st1 := [.int r4, .int r2, .int a2, .int a1, .int 4, .ref (ad 0 0)]) (pc1 := 18) (kX7_of l D tc sa ad hI a1 8 μ r4 hc3) wcX7_of wlX7_38 eR0 rfl rfl rfl ⟨rfl, rfl, Nat.le_of_ble_eq_true rfl, Nat.le_of_ble_eq_true rfl⟩ ⟨Nat.zero_le _, Nat.zero_le _⟩ (Nat.le_of_ble_eq_true rfl) dX7_sendSnapshot_15 rfl rfl ?_
  obtain ⟨r6, μ7, hc5, h⟩ := gBd_s h
  refine J_callV (As := [.int 4, .int a1, .int a2, .int r2, .int r4]) (ad := ad) (f := 0) (i := 0) (st := []) (st1 := [.int r6]) (pc1 := 21) (kX7_send l D tc sa ad hI 4 a1 a2 r2 r4 μ r6 μ7 hc5) wcX7_send wlX7_95 eR0 rfl rfl rfl ⟨rfl, rfl, Nat.le_of_ble_eq_true rfl, Nat.le_of_ble_eq_true rfl⟩ ⟨Nat.zero_le _, Nat.zero_le _⟩ (Nat.le_of_ble_eq_true rfl) dX7_sendSnapshot_18 rfl rfl ?_
  refine J_istore_n (i := 3) (lv1 := [(3, .int r6), (0, .ref (ad 0 0)), (1, .int a1), (2, .int a2)]) (pc1 := 22) dX7_sendSnapshot_21 rfl (by decide) rfl rfl ?_
  refine J_iload_n (i := 3) (q := 0) (pc1 := 23) dX7_sendSnapshot_22 rfl rfl rfl ?_
  refine J_if_lt (tgt := 68) (pc1 := 26) dX7_sendSnapshot_23 (by decide) (fun q8 => ?_) rfl (fun q8 => ?_)
  · rw [if_pos q8] at h
    cases h
    exact J_vret hr hlk dX7_sendSnapshot_68
  · rw [if_neg q8] at h
    refine J_aload_n (i := 0) (q := 1) (pc1 := 27) dX7_sendSnapshot_26 rfl rfl rfl ?_
    refine J_iload_n (i := 3) (q := 0) (pc1 := 28) dX7_sendSnapshot_27 rfl rfl rfl ?_
    refine J_bipush (v := 10) (pc1 := 30) dX7_sendSnapshot_28 (by decide) rfl ?_
    refine J_aload_n (i := 0) (q := 1) (pc1 := 31) dX7_sendSnapshot_30 rfl rfl rfl ?_
    refine J_iload_n (i := 1) (q := 2) (pc1 := 32) dX7_sendSnapshot_31 rfl rfl rfl ?_
    refine J_bipush (v := 9) (pc1 := 34) dX7_sendSnapshot_32 (by decide) rfl ?_
    obtain ⟨r10, hc9, h⟩ := gBp_s h
    refine J_callV (As := [.int a1, .int 9]) (ad := ad) (f := 0) (i := 0) (st := [.int 10, .int r6, .ref (ad 0 0)]) (st1 := [.int r10, .int 10, .int r6, .ref (ad 0 0)]) (pc1 := 37) (kX7_of l D tc sa ad hI a1 9 μ7 r10 hc9) wcX7_of wlX7_38 eR0 rfl rfl rfl ⟨rfl, rfl, Nat.le_of_ble_eq_true rfl, Nat.le_of_ble_eq_true rfl⟩ ⟨Nat.zero_le _, Nat.zero_le _⟩ (Nat.le_of_ble_eq_true rfl) dX7_sendSnapshot_34 rfl rfl ?_
    obtain ⟨μ12, hc11, h⟩ := gBp_s h
    refine J_callV (As := [.int r6, .int 10, .int r10]) (ad := ad) (f := 0) (i := 0) (st := []) (st1 := []) (pc1 := 40) (kX7_put l D tc sa ad hI r6 10 r10 μ7 μ12 hc11) wcX7_put wlX7_92 eR0 rfl rfl rfl ⟨rfl, rfl, Nat.le_of_ble_eq_true rfl, Nat.le_of_ble_eq_true rfl⟩ ⟨Nat.zero_le _, Nat.zero_le _⟩ (Nat.le_of_ble_eq_true rfl) dX7_sendSnapshot_37 rfl rfl ?_
    refine J_aload_n (i := 0) (q := 1) (pc1 := 41) dX7_sendSnapshot_40 rfl rfl rfl ?_
    refine J_iload_n (i := 3) (q := 0) (pc1 := 42) dX7_sendSnapshot_41 rfl rfl rfl ?_
    refine J_bipush (v := 11) (pc1 := 44) dX7_sendSnapshot_42 (by decide) rfl ?_
    refine J_aload_n (i := 0) (q := 1) (pc1 := 45) dX7_sendSnapshot_44 rfl rfl rfl ?_
    refine J_iload_n (i := 1) (q := 2) (pc1 := 46) dX7_sendSnapshot_45 rfl rfl rfl ?_
    refine J_bipush (v := 10) (pc1 := 48) dX7_sendSnapshot_46 (by decide) rfl ?_
    obtain ⟨r14, hc13, h⟩ := gBp_s h
    refine J_callV (As := [.int a1, .int 10]) (ad := ad) (f := 0) (i := 0) (st := [.int 11, .int r6, .ref (ad 0 0)]) (st1 := [.int r14, .int 11, .int r6, .ref (ad 0 0)]) (pc1 := 51) (kX7_of l D tc sa ad hI a1 10 μ12 r14 hc13) wcX7_of wlX7_38 eR0 rfl rfl rfl ⟨rfl, rfl, Nat.le_of_ble_eq_true rfl, Nat.le_of_ble_eq_true rfl⟩ ⟨Nat.zero_le _, Nat.zero_le _⟩ (Nat.le_of_ble_eq_true rfl) dX7_sendSnapshot_48 rfl rfl ?_
    obtain ⟨μ16, hc15, h⟩ := gBp_s h
    refine J_callV (As := [.int r6, .int 11, .int r14]) (ad := ad) (f := 0) (i := 0) (st := []) (st1 := []) (pc1 := 54) (kX7_put l D tc sa ad hI r6 11 r14 μ12 μ16 hc15) wcX7_put wlX7_92 eR0 rfl rfl rfl ⟨rfl, rfl, Nat.le_of_ble_eq_true rfl, Nat.le_of_ble_eq_true rfl⟩ ⟨Nat.zero_le _, Nat.zero_le _⟩ (Nat.le_of_ble_eq_true rfl) dX7_sendSnapshot_51 rfl rfl ?_
    refine J_aload_n (i := 0) (q := 1) (pc1 := 55) dX7_sendSnapshot_54 rfl rfl rfl ?_
    refine J_iload_n (i := 3) (q := 0) (pc1 := 56) dX7_sendSnapshot_55 rfl rfl rfl ?_
    refine J_bipush (v := 12) (pc1 := 58) dX7_sendSnapshot_56 (by decide) rfl ?_
    refine J_aload_n (i := 0) (q := 1) (pc1 := 59) dX7_sendSnapshot_58 rfl rfl rfl ?_
    refine J_iload_n (i := 1) (q := 2) (pc1 := 60) dX7_sendSnapshot_59 rfl rfl rfl ?_
    refine J_bipush (v := 11) (pc1 := 62) dX7_sendSnapshot_60 (by decide) rfl ?_
    obtain ⟨r18, hc17, h⟩ := gBp_s h
    refine J_callV (As := [.int a1, .int 11]) (ad := ad) (f := 0) (i := 0) (st := [.int 12, .int r6, .ref (ad 0 0)]) (st1 := [.int r18, .int 12, .int r6, .ref (ad 0 0)]) (pc1 := 65) (kX7_of l D tc sa ad hI a1 11 μ16 r18 hc17) wcX7_of wlX7_38 eR0 rfl rfl rfl ⟨rfl, rfl, Nat.le_of_ble_eq_true rfl, Nat.le_of_ble_eq_true rfl⟩ ⟨Nat.zero_le _, Nat.zero_le _⟩ (Nat.le_of_ble_eq_true rfl) dX7_sendSnapshot_62 rfl rfl ?_
    obtain ⟨μ20, hc19, h⟩ := gBp_s h
    refine J_callV (As := [.int r6, .int 12, .int r18]) (ad := ad) (f := 0) (i := 0) (st := []) (st1 := []) (pc1 := 68) (kX7_put l D tc sa ad hI r6 12 r18 μ16 μ20 hc19) wcX7_put wlX7_92 eR0 rfl rfl rfl ⟨rfl, rfl, Nat.le_of_ble_eq_true rfl, Nat.le_of_ble_eq_true rfl⟩ ⟨Nat.zero_le _, Nat.zero_le _⟩ (Nat.le_of_ble_eq_true rfl) dX7_sendSnapshot_65 rfl rfl ?_
    cases h
    exact J_vret hr hlk dX7_sendSnapshot_68
def mX7_sendEntries (a1 : Int32) (a2 : Int32) (μ : gM) : Option gM :=
  gBp (mX7_of a1 (13 + a2) μ) fun r2 =>
  gBp (mX7_last a1 μ) fun r4 =>
  gLet (α := Int32) ((r4 - r2) + 1) fun x5 =>
  gLet (α := Int32) (if x5 ≤ 4 then x5 else 4) fun x9 =>
  gBd (mX7_send 2 a1 a2 (r2 - 1) x9 μ) fun r14 μ15 =>
  if r14 < 0 then
    some μ15
  else
    gBp (mX7_termAt a1 (r2 - 1) μ15) fun r18 =>
    gBp (mX7_put r14 8 r18 μ15) fun μ20 =>
    gBp (mX7_of a1 4 μ20) fun r22 =>
    gBp (mX7_put r14 9 r22 μ20) fun μ24 =>
    gJon (fun (μ25 : gM) =>
        some μ25) fun j26 =>
    gFx2 (fun rec29 (x27 : Int32) (μ28 : gM) =>
        if (3 * x9) ≤ x27 then
          j26 μ28
        else
          gBp (mX7_entryOf a1 (r2 + (x27 / 3)) (x27 - x27 / 3 * 3) μ28) fun r32 =>
          gBp (mX7_put r14 (13 + x27) r32 μ28) fun μ34 =>
          rec29 (x27 + 1) μ34) 1000000 0 μ24
set_option maxHeartbeats 4000000 in
set_option maxRecDepth 100000 in
theorem kX7_sendEntries (l : Launch) (D : va_G) (tc : Nat → ClassId) (sa : Nat → Nat) (ad : Nat → Nat → Nat) (hI : gI gE_R ad) (a1 : Int32) (a2 : Int32) (μ : gM) (μ' : gM) (h : mX7_sendEntries a1 a2 μ = some μ') : gMet l yX7_sendEntries cX7_sendEntries 7 (none) ({ frames := 3, cells := 0, slots := 0, locals := 67 } : Room) D gE_R gkd_R tc ad grh_R sa [.ref (ad 0 0), .int a1, .int a2] μ (none) μ' := by
  refine gMet_of hI ⟨by decide +kernel, Nat.le_of_ble_eq_true rfl⟩ (fun p e s m args below meth c sz hr hlk => ?_)
  unfold mX7_sendEntries at h
  show JR p l e ({ frames := 3, cells := 0, slots := 0, locals := 67 } : Room) s m args below meth c cX7_sendEntries 7 RX7 D tc sa ad sz (none) μ' μ 0 [(0, .ref (ad 0 0)), (1, .int a1), (2, .int a2)] []
  refine J_aload_n (i := 0) (q := 0) (pc1 := 1) dX7_sendEntries_0 rfl rfl rfl ?_
  refine J_iload_n (i := 1) (q := 1) (pc1 := 2) dX7_sendEntries_1 rfl rfl rfl ?_
  refine J_bipush (v := 13) (pc1 := 4) dX7_sendEntries_2 (by decide) rfl ?_
  refine J_iload_n (i := 2) (q := 2) (pc1 := 5) dX7_sendEntries_4 rfl rfl rfl ?_
  refine J_iadd (pc1 := 6) dX7_sendEntries_5 rfl ?_
  obtain ⟨r2, hc1, h⟩ := gBp_s h
  refine J_callV (As := [.int a1, .int (13 + a2)]) (ad := ad) (f := 0) (i := 0) (st := []) (st1 := [.int r2]) (pc1 := 9) (kX7_of l D tc sa ad hI a1 (13 + a2) μ r2 hc1) wcX7_of wlX7_38 eR0 rfl rfl rfl ⟨rfl, rfl, Nat.le_of_ble_eq_true rfl, Nat.le_of_ble_eq_true rfl⟩ ⟨Nat.zero_le _, Nat.zero_le _⟩ (Nat.le_of_ble_eq_true rfl) dX7_sendEntries_6 rfl rfl ?_
  refine J_istore_n (i := 3) (lv1 := [(3, .int r2), (0, .ref (ad 0 0)), (1, .int a1), (2, .int a2)]) (pc1 := 10) dX7_sendEntries_9 rfl (by decide) rfl rfl ?_
  refine J_aload_n (i := 0) (q := 1) (pc1 := 11) dX7_sendEntries_10 rfl rfl rfl ?_
  refine J_iload_n (i := 1) (q := 2) (pc1 := 12) dX7_sendEntries_11 rfl rfl rfl ?_
  obtain ⟨r4, hc3, h⟩ := gBp_s h
  refine J_callV (As := [.int a1]) (ad := ad) (f := 0) (i := 0) (st := []) (st1 := [.int r4]) (pc1 := 15) (kX7_last l D tc sa ad hI a1 μ r4 hc3) wcX7_last wlX7_67 eR0 rfl rfl rfl ⟨rfl, rfl, Nat.le_of_ble_eq_true rfl, Nat.le_of_ble_eq_true rfl⟩ ⟨Nat.zero_le _, Nat.zero_le _⟩ (Nat.le_of_ble_eq_true rfl) dX7_sendEntries_12 rfl rfl ?_
  refine J_iload_n (i := 3) (q := 0) (pc1 := 16) dX7_sendEntries_15 rfl rfl rfl ?_
  refine J_isub (pc1 := 17) dX7_sendEntries_16 rfl ?_
  refine J_iconst (v := 1) (pc1 := 18) dX7_sendEntries_17 (by decide) rfl ?_
  refine J_iadd (pc1 := 19) dX7_sendEntries_18 rfl ?_
  obtain ⟨x5, e7, h⟩ := gLet_s h
  refine J_top (fun y6 e8 => ?_)
  have e8x : x5 = y6 := (e8.trans e7.symm).symm
  subst e8x
  refine J_istore (i := 4) (lv1 := [(4, .int x5), (3, .int r2), (0, .ref (ad 0 0)), (1, .int a1), (2, .int a2)]) (pc1 := 21) dX7_sendEntries_19 (by decide) rfl rfl ?_
  refine J_iload (i := 4) (q := 0) (pc1 := 23) dX7_sendEntries_21 rfl rfl ?_
  refine J_iconst (v := 4) (pc1 := 24) dX7_sendEntries_23 (by decide) rfl ?_
  obtain ⟨x9, e10, h⟩ := gLet_s h
  have k11 : JR p l e ({ frames := 3, cells := 0, slots := 0, locals := 67 } : Room) s m args below meth c cX7_sendEntries 7 RX7 D tc sa ad sz (none) μ' μ 33 [(4, .int x5), (3, .int r2), (0, .ref (ad 0 0)), (1, .int a1), (2, .int a2)] [.int x9] := by
    refine J_istore (i := 4) (lv1 := [(4, .int x9), (3, .int r2), (0, .ref (ad 0 0)), (1, .int a1), (2, .int a2)]) (pc1 := 35) dX7_sendEntries_33 (by decide) rfl rfl ?_
    refine J_aload_n (i := 0) (q := 2) (pc1 := 36) dX7_sendEntries_35 rfl rfl rfl ?_
    refine J_iconst (v := 2) (pc1 := 37) dX7_sendEntries_36 (by decide) rfl ?_
    refine J_iload_n (i := 1) (q := 3) (pc1 := 38) dX7_sendEntries_37 rfl rfl rfl ?_
    refine J_iload_n (i := 2) (q := 4) (pc1 := 39) dX7_sendEntries_38 rfl rfl rfl ?_
    refine J_iload_n (i := 3) (q := 1) (pc1 := 40) dX7_sendEntries_39 rfl rfl rfl ?_
    refine J_iconst (v := 1) (pc1 := 41) dX7_sendEntries_40 (by decide) rfl ?_
    refine J_isub (pc1 := 42) dX7_sendEntries_41 rfl ?_
    refine J_iload (i := 4) (q := 0) (pc1 := 44) dX7_sendEntries_42 rfl rfl ?_
    obtain ⟨r14, μ15, hc13, h⟩ := gBd_s h
    refine J_callV (As := [.int 2, .int a1, .int a2, .int (r2 - 1), .int x9]) (ad := ad) (f := 0) (i := 0) (st := []) (st1 := [.int r14]) (pc1 := 47) (kX7_send l D tc sa ad hI 2 a1 a2 (r2 - 1) x9 μ r14 μ15 hc13) wcX7_send wlX7_95 eR0 rfl rfl rfl ⟨rfl, rfl, Nat.le_of_ble_eq_true rfl, Nat.le_of_ble_eq_true rfl⟩ ⟨Nat.zero_le _, Nat.zero_le _⟩ (Nat.le_of_ble_eq_true rfl) dX7_sendEntries_44 rfl rfl ?_
    refine J_istore (i := 5) (lv1 := [(5, .int r14), (4, .int x9), (3, .int r2), (0, .ref (ad 0 0)), (1, .int a1), (2, .int a2)]) (pc1 := 49) dX7_sendEntries_47 (by decide) rfl rfl ?_
    refine J_iload (i := 5) (q := 0) (pc1 := 51) dX7_sendEntries_49 rfl rfl ?_
    refine J_if_lt (tgt := 128) (pc1 := 54) dX7_sendEntries_51 (by decide) (fun q16 => ?_) rfl (fun q16 => ?_)
    · rw [if_pos q16] at h
      cases h
      exact J_vret hr hlk dX7_sendEntries_128
    · rw [if_neg q16] at h
      refine J_aload_n (i := 0) (q := 3) (pc1 := 55) dX7_sendEntries_54 rfl rfl rfl ?_
      refine J_iload (i := 5) (q := 0) (pc1 := 57) dX7_sendEntries_55 rfl rfl ?_
      refine J_bipush (v := 8) (pc1 := 59) dX7_sendEntries_57 (by decide) rfl ?_
      refine J_aload_n (i := 0) (q := 3) (pc1 := 60) dX7_sendEntries_59 rfl rfl rfl ?_
      refine J_iload_n (i := 1) (q := 4) (pc1 := 61) dX7_sendEntries_60 rfl rfl rfl ?_
      refine J_iload_n (i := 3) (q := 2) (pc1 := 62) dX7_sendEntries_61 rfl rfl rfl ?_
      refine J_iconst (v := 1) (pc1 := 63) dX7_sendEntries_62 (by decide) rfl ?_
      refine J_isub (pc1 := 64) dX7_sendEntries_63 rfl ?_
      obtain ⟨r18, hc17, h⟩ := gBp_s h
      refine J_callV (As := [.int a1, .int (r2 - 1)]) (ad := ad) (f := 0) (i := 0) (st := [.int 8, .int r14, .ref (ad 0 0)]) (st1 := [.int r18, .int 8, .int r14, .ref (ad 0 0)]) (pc1 := 67) (kX7_termAt l D tc sa ad hI a1 (r2 - 1) μ15 r18 hc17) wcX7_termAt wlX7_99 eR0 rfl rfl rfl ⟨rfl, rfl, Nat.le_of_ble_eq_true rfl, Nat.le_of_ble_eq_true rfl⟩ ⟨Nat.zero_le _, Nat.zero_le _⟩ (Nat.le_of_ble_eq_true rfl) dX7_sendEntries_64 rfl rfl ?_
      obtain ⟨μ20, hc19, h⟩ := gBp_s h
      refine J_callV (As := [.int r14, .int 8, .int r18]) (ad := ad) (f := 0) (i := 0) (st := []) (st1 := []) (pc1 := 70) (kX7_put l D tc sa ad hI r14 8 r18 μ15 μ20 hc19) wcX7_put wlX7_92 eR0 rfl rfl rfl ⟨rfl, rfl, Nat.le_of_ble_eq_true rfl, Nat.le_of_ble_eq_true rfl⟩ ⟨Nat.zero_le _, Nat.zero_le _⟩ (Nat.le_of_ble_eq_true rfl) dX7_sendEntries_67 rfl rfl ?_
      refine J_aload_n (i := 0) (q := 3) (pc1 := 71) dX7_sendEntries_70 rfl rfl rfl ?_
      refine J_iload (i := 5) (q := 0) (pc1 := 73) dX7_sendEntries_71 rfl rfl ?_
      refine J_bipush (v := 9) (pc1 := 75) dX7_sendEntries_73 (by decide) rfl ?_
      refine J_aload_n (i := 0) (q := 3) (pc1 := 76) dX7_sendEntries_75 rfl rfl rfl ?_
      refine J_iload_n (i := 1) (q := 4) (pc1 := 77) dX7_sendEntries_76 rfl rfl rfl ?_
      refine J_iconst (v := 4) (pc1 := 78) dX7_sendEntries_77 (by decide) rfl ?_
      obtain ⟨r22, hc21, h⟩ := gBp_s h
      refine J_callV (As := [.int a1, .int 4]) (ad := ad) (f := 0) (i := 0) (st := [.int 9, .int r14, .ref (ad 0 0)]) (st1 := [.int r22, .int 9, .int r14, .ref (ad 0 0)]) (pc1 := 81) (kX7_of l D tc sa ad hI a1 4 μ20 r22 hc21) wcX7_of wlX7_38 eR0 rfl rfl rfl ⟨rfl, rfl, Nat.le_of_ble_eq_true rfl, Nat.le_of_ble_eq_true rfl⟩ ⟨Nat.zero_le _, Nat.zero_le _⟩ (Nat.le_of_ble_eq_true rfl) dX7_sendEntries_78 rfl rfl ?_
      obtain ⟨μ24, hc23, h⟩ := gBp_s h
      refine J_callV (As := [.int r14, .int 9, .int r22]) (ad := ad) (f := 0) (i := 0) (st := []) (st1 := []) (pc1 := 84) (kX7_put l D tc sa ad hI r14 9 r22 μ20 μ24 hc23) wcX7_put wlX7_92 eR0 rfl rfl rfl ⟨rfl, rfl, Nat.le_of_ble_eq_true rfl, Nat.le_of_ble_eq_true rfl⟩ ⟨Nat.zero_le _, Nat.zero_le _⟩ (Nat.le_of_ble_eq_true rfl) dX7_sendEntries_81 rfl rfl ?_
      refine J_iconst (v := 0) (pc1 := 85) dX7_sendEntries_84 (by decide) rfl ?_
      refine J_istore (i := 6) (lv1 := [(6, .int 0), (5, .int r14), (4, .int x9), (3, .int r2), (0, .ref (ad 0 0)), (1, .int a1), (2, .int a2)]) (pc1 := 87) dX7_sendEntries_85 (by decide) rfl rfl ?_
      obtain ⟨j26, ej26, h⟩ := gJon_s h
      have kj26 : ∀ (μ25 : gM), j26 μ25 = some μ' → JR p l e ({ frames := 3, cells := 0, slots := 0, locals := 67 } : Room) s m args below meth c cX7_sendEntries 7 RX7 D tc sa ad sz (none) μ' μ25 128 [] [] := by
        intro μ25 h
        rw [ej26] at h
        try dsimp only at h
        cases h
        exact J_vret hr hlk dX7_sendEntries_128
      clear ej26
      refine J_sub [4, 5, 3, 2, 1, 0] (lv1 := [(0, .ref (ad 0 0)), (1, .int a1), (3, .int r2), (4, .int x9), (5, .int r14), (6, .int 0)]) rfl ?_
      refine gFx2_s (P := fun x27 μ28 => JR p l e ({ frames := 3, cells := 0, slots := 0, locals := 67 } : Room) s m args below meth c cX7_sendEntries 7 RX7 D tc sa ad sz (none) μ' μ28 87 [(0, .ref (ad 0 0)), (1, .int a1), (3, .int r2), (4, .int x9), (5, .int r14), (6, .int x27)] []) (fun rec29 ihrec29 x27 μ28 h => ?_) _ _ _ h
      try dsimp only at h
      refine J_iload (i := 6) (q := 5) (pc1 := 89) dX7_sendEntries_87 rfl rfl ?_
      refine J_iconst (v := 3) (pc1 := 90) dX7_sendEntries_89 (by decide) rfl ?_
      refine J_iload (i := 4) (q := 3) (pc1 := 92) dX7_sendEntries_90 rfl rfl ?_
      refine J_imul (pc1 := 93) dX7_sendEntries_92 rfl ?_
      refine J_icmp_ge (tgt := 128) (pc1 := 96) dX7_sendEntries_93 (by decide) (fun q30 => ?_) rfl (fun q30 => ?_)
      · rw [if_pos q30] at h
        refine J_sub [] (lv1 := []) rfl ?_
        exact kj26 _ h
      · rw [if_neg q30] at h
        refine J_aload_n (i := 0) (q := 0) (pc1 := 97) dX7_sendEntries_96 rfl rfl rfl ?_
        refine J_iload (i := 5) (q := 4) (pc1 := 99) dX7_sendEntries_97 rfl rfl ?_
        refine J_bipush (v := 13) (pc1 := 101) dX7_sendEntries_99 (by decide) rfl ?_
        refine J_iload (i := 6) (q := 5) (pc1 := 103) dX7_sendEntries_101 rfl rfl ?_
        refine J_iadd (pc1 := 104) dX7_sendEntries_103 rfl ?_
        refine J_aload_n (i := 0) (q := 0) (pc1 := 105) dX7_sendEntries_104 rfl rfl rfl ?_
        refine J_iload_n (i := 1) (q := 1) (pc1 := 106) dX7_sendEntries_105 rfl rfl rfl ?_
        refine J_iload_n (i := 3) (q := 2) (pc1 := 107) dX7_sendEntries_106 rfl rfl rfl ?_
        refine J_iload (i := 6) (q := 5) (pc1 := 109) dX7_sendEntries_107 rfl rfl ?_
        refine J_iconst (v := 3) (pc1 := 110) dX7_sendEntries_109 (by decide) rfl ?_
        refine J_idiv (pc1 := 111) dX7_sendEntries_110 (by decide) rfl ?_
        refine J_iadd (pc1 := 112) dX7_sendEntries_111 rfl ?_
        refine J_iload (i := 6) (q := 5) (pc1 := 114) dX7_sendEntries_112 rfl rfl ?_
        refine J_iconst (v := 3) (pc1 := 115) dX7_sendEntries_114 (by decide) rfl ?_
        refine J_irem (pc1 := 116) dX7_sendEntries_115 (by decide) rfl ?_
        obtain ⟨r32, hc31, h⟩ := gBp_s h
        refine J_callV (As := [.int a1, .int (r2 + (x27 / 3)), .int (x27 - x27 / 3 * 3)]) (ad := ad) (f := 0) (i := 0) (st := [.int (13 + x27), .int r14, .ref (ad 0 0)]) (st1 := [.int r32, .int (13 + x27), .int r14, .ref (ad 0 0)]) (pc1 := 119) (kX7_entryOf l D tc sa ad hI a1 (r2 + (x27 / 3)) (x27 - x27 / 3 * 3) μ28 r32 hc31) wcX7_entryOf wlX7_63 eR0 rfl rfl rfl ⟨rfl, rfl, Nat.le_of_ble_eq_true rfl, Nat.le_of_ble_eq_true rfl⟩ ⟨Nat.zero_le _, Nat.zero_le _⟩ (Nat.le_of_ble_eq_true rfl) dX7_sendEntries_116 rfl rfl ?_
        obtain ⟨μ34, hc33, h⟩ := gBp_s h
        refine J_callV (As := [.int r14, .int (13 + x27), .int r32]) (ad := ad) (f := 0) (i := 0) (st := []) (st1 := []) (pc1 := 122) (kX7_put l D tc sa ad hI r14 (13 + x27) r32 μ28 μ34 hc33) wcX7_put wlX7_92 eR0 rfl rfl rfl ⟨rfl, rfl, Nat.le_of_ble_eq_true rfl, Nat.le_of_ble_eq_true rfl⟩ ⟨Nat.zero_le _, Nat.zero_le _⟩ (Nat.le_of_ble_eq_true rfl) dX7_sendEntries_119 rfl rfl ?_
        refine J_iinc (i := 6) (q := 5) (v := x27 + 1) (lv1 := [(6, .int (x27 + 1)), (0, .ref (ad 0 0)), (1, .int a1), (3, .int r2), (4, .int x9), (5, .int r14)]) (pc1 := 125) dX7_sendEntries_122 rfl rfl (by decide) rfl rfl ?_
        refine J_goto (tgt := 87) dX7_sendEntries_125 (by decide) ?_
        refine J_sub [1, 2, 3, 4, 5, 0] (lv1 := [(0, .ref (ad 0 0)), (1, .int a1), (3, .int r2), (4, .int x9), (5, .int r14), (6, .int (x27 + 1))]) rfl ?_
        exact ihrec29 _ _ h
  refine J_icmp_le (tgt := 31) (pc1 := 27) dX7_sendEntries_24 (by decide) (fun q12 => ?_) rfl (fun q12 => ?_)
  · rw [if_pos q12] at e10
    subst e10
    refine J_iload (i := 4) (q := 0) (pc1 := 33) dX7_sendEntries_31 rfl rfl ?_
    exact k11
  · rw [if_neg q12] at e10
    subst e10
    refine J_iconst (v := 4) (pc1 := 28) dX7_sendEntries_27 (by decide) rfl ?_
    refine J_goto (tgt := 33) dX7_sendEntries_28 (by decide) ?_
    exact k11
def mX7_sendTo (a1 : Int32) (a2 : Int32) (μ : gM) : Option gM :=
  gBp (mX7_of a1 (13 + a2) μ) fun r2 =>
  gBp (mX7_of a1 7 μ) fun r4 =>
  if r4 < r2 then
    gBp (mX7_sendEntries a1 a2 μ) fun μ7 =>
    some μ7
  else
    gBp (mX7_sendSnapshot a1 a2 μ) fun μ9 =>
    some μ9
set_option maxHeartbeats 4000000 in
set_option maxRecDepth 100000 in
theorem kX7_sendTo (l : Launch) (D : va_G) (tc : Nat → ClassId) (sa : Nat → Nat) (ad : Nat → Nat → Nat) (hI : gI gE_R ad) (a1 : Int32) (a2 : Int32) (μ : gM) (μ' : gM) (h : mX7_sendTo a1 a2 μ = some μ') : gMet l yX7_sendTo cX7_sendTo 3 (none) ({ frames := 4, cells := 0, slots := 0, locals := 93 } : Room) D gE_R gkd_R tc ad grh_R sa [.ref (ad 0 0), .int a1, .int a2] μ (none) μ' := by
  refine gMet_of hI ⟨by decide +kernel, Nat.le_of_ble_eq_true rfl⟩ (fun p e s m args below meth c sz hr hlk => ?_)
  unfold mX7_sendTo at h
  show JR p l e ({ frames := 4, cells := 0, slots := 0, locals := 93 } : Room) s m args below meth c cX7_sendTo 3 RX7 D tc sa ad sz (none) μ' μ 0 [(0, .ref (ad 0 0)), (1, .int a1), (2, .int a2)] []
  refine J_aload_n (i := 0) (q := 0) (pc1 := 1) dX7_sendTo_0 rfl rfl rfl ?_
  refine J_iload_n (i := 1) (q := 1) (pc1 := 2) dX7_sendTo_1 rfl rfl rfl ?_
  refine J_bipush (v := 13) (pc1 := 4) dX7_sendTo_2 (by decide) rfl ?_
  refine J_iload_n (i := 2) (q := 2) (pc1 := 5) dX7_sendTo_4 rfl rfl rfl ?_
  refine J_iadd (pc1 := 6) dX7_sendTo_5 rfl ?_
  obtain ⟨r2, hc1, h⟩ := gBp_s h
  refine J_callV (As := [.int a1, .int (13 + a2)]) (ad := ad) (f := 0) (i := 0) (st := []) (st1 := [.int r2]) (pc1 := 9) (kX7_of l D tc sa ad hI a1 (13 + a2) μ r2 hc1) wcX7_of wlX7_38 eR0 rfl rfl rfl ⟨rfl, rfl, Nat.le_of_ble_eq_true rfl, Nat.le_of_ble_eq_true rfl⟩ ⟨Nat.zero_le _, Nat.zero_le _⟩ (Nat.le_of_ble_eq_true rfl) dX7_sendTo_6 rfl rfl ?_
  refine J_aload_n (i := 0) (q := 0) (pc1 := 10) dX7_sendTo_9 rfl rfl rfl ?_
  refine J_iload_n (i := 1) (q := 1) (pc1 := 11) dX7_sendTo_10 rfl rfl rfl ?_
  refine J_bipush (v := 7) (pc1 := 13) dX7_sendTo_11 (by decide) rfl ?_
  obtain ⟨r4, hc3, h⟩ := gBp_s h
  refine J_callV (As := [.int a1, .int 7]) (ad := ad) (f := 0) (i := 0) (st := [.int r2]) (st1 := [.int r4, .int r2]) (pc1 := 16) (kX7_of l D tc sa ad hI a1 7 μ r4 hc3) wcX7_of wlX7_38 eR0 rfl rfl rfl ⟨rfl, rfl, Nat.le_of_ble_eq_true rfl, Nat.le_of_ble_eq_true rfl⟩ ⟨Nat.zero_le _, Nat.zero_le _⟩ (Nat.le_of_ble_eq_true rfl) dX7_sendTo_13 rfl rfl ?_
  refine J_icmp_gt (tgt := 28) (pc1 := 19) dX7_sendTo_16 (by decide) (fun q5 => ?_) rfl (fun q5 => ?_)
  · rw [if_pos q5] at h
    refine J_aload_n (i := 0) (q := 0) (pc1 := 29) dX7_sendTo_28 rfl rfl rfl ?_
    refine J_iload_n (i := 1) (q := 1) (pc1 := 30) dX7_sendTo_29 rfl rfl rfl ?_
    refine J_iload_n (i := 2) (q := 2) (pc1 := 31) dX7_sendTo_30 rfl rfl rfl ?_
    obtain ⟨μ7, hc6, h⟩ := gBp_s h
    refine J_callV (As := [.int a1, .int a2]) (ad := ad) (f := 0) (i := 0) (st := []) (st1 := []) (pc1 := 34) (kX7_sendEntries l D tc sa ad hI a1 a2 μ μ7 hc6) wcX7_sendEntries wlX7_105 eR0 rfl rfl rfl ⟨rfl, rfl, Nat.le_of_ble_eq_true rfl, Nat.le_of_ble_eq_true rfl⟩ ⟨Nat.zero_le _, Nat.zero_le _⟩ (Nat.le_of_ble_eq_true rfl) dX7_sendTo_31 rfl rfl ?_
    cases h
    exact J_vret hr hlk dX7_sendTo_34
  · rw [if_neg q5] at h
    refine J_aload_n (i := 0) (q := 0) (pc1 := 20) dX7_sendTo_19 rfl rfl rfl ?_
    refine J_iload_n (i := 1) (q := 1) (pc1 := 21) dX7_sendTo_20 rfl rfl rfl ?_
    refine J_iload_n (i := 2) (q := 2) (pc1 := 22) dX7_sendTo_21 rfl rfl rfl ?_
    obtain ⟨μ9, hc8, h⟩ := gBp_s h
    refine J_callV (As := [.int a1, .int a2]) (ad := ad) (f := 0) (i := 0) (st := []) (st1 := []) (pc1 := 25) (kX7_sendSnapshot l D tc sa ad hI a1 a2 μ μ9 hc8) wcX7_sendSnapshot wlX7_102 eR0 rfl rfl rfl ⟨rfl, rfl, Nat.le_of_ble_eq_true rfl, Nat.le_of_ble_eq_true rfl⟩ ⟨Nat.zero_le _, Nat.zero_le _⟩ (Nat.le_of_ble_eq_true rfl) dX7_sendTo_22 rfl rfl ?_
    refine J_goto (tgt := 34) dX7_sendTo_25 (by decide) ?_
    cases h
    exact J_vret hr hlk dX7_sendTo_34
def mX7_sendToAll (a1 : Int32) (μ : gM) : Option gM :=
  gBp (mX7_members a1 μ) fun r2 =>
  gJon (fun (μ3 : gM) =>
      some μ3) fun j4 =>
  gFx2 (fun rec7 (x5 : Int32) (μ6 : gM) =>
      if 5 ≤ x5 then
        j4 μ6
      else
        if x5 = a1 then
          rec7 (x5 + 1) μ6
        else
          gBp (mX7_has r2 x5 μ6) fun r11 =>
          if r11 = 0 then
            rec7 (x5 + 1) μ6
          else
            gBp (mX7_sendTo a1 x5 μ6) fun μ14 =>
            rec7 (x5 + 1) μ14) 1000000 0 μ
set_option maxHeartbeats 4000000 in
set_option maxRecDepth 100000 in
theorem kX7_sendToAll (l : Launch) (D : va_G) (tc : Nat → ClassId) (sa : Nat → Nat) (ad : Nat → Nat → Nat) (hI : gI gE_R ad) (a1 : Int32) (μ : gM) (μ' : gM) (h : mX7_sendToAll a1 μ = some μ') : gMet l yX7_sendToAll cX7_sendToAll 4 (none) ({ frames := 5, cells := 0, slots := 0, locals := 115 } : Room) D gE_R gkd_R tc ad grh_R sa [.ref (ad 0 0), .int a1] μ (none) μ' := by
  refine gMet_of hI ⟨by decide +kernel, Nat.le_of_ble_eq_true rfl⟩ (fun p e s m args below meth c sz hr hlk => ?_)
  unfold mX7_sendToAll at h
  show JR p l e ({ frames := 5, cells := 0, slots := 0, locals := 115 } : Room) s m args below meth c cX7_sendToAll 4 RX7 D tc sa ad sz (none) μ' μ 0 [(0, .ref (ad 0 0)), (1, .int a1)] []
  refine J_aload_n (i := 0) (q := 0) (pc1 := 1) dX7_sendToAll_0 rfl rfl rfl ?_
  refine J_iload_n (i := 1) (q := 1) (pc1 := 2) dX7_sendToAll_1 rfl rfl rfl ?_
  obtain ⟨r2, hc1, h⟩ := gBp_s h
  refine J_callV (As := [.int a1]) (ad := ad) (f := 0) (i := 0) (st := []) (st1 := [.int r2]) (pc1 := 5) (kX7_members l D tc sa ad hI a1 μ r2 hc1) wcX7_members wlX7_108 eR0 rfl rfl rfl ⟨rfl, rfl, Nat.le_of_ble_eq_true rfl, Nat.le_of_ble_eq_true rfl⟩ ⟨Nat.zero_le _, Nat.zero_le _⟩ (Nat.le_of_ble_eq_true rfl) dX7_sendToAll_2 rfl rfl ?_
  refine J_istore_n (i := 2) (lv1 := [(2, .int r2), (0, .ref (ad 0 0)), (1, .int a1)]) (pc1 := 6) dX7_sendToAll_5 rfl (by decide) rfl rfl ?_
  refine J_iconst (v := 0) (pc1 := 7) dX7_sendToAll_6 (by decide) rfl ?_
  refine J_istore_n (i := 3) (lv1 := [(3, .int 0), (2, .int r2), (0, .ref (ad 0 0)), (1, .int a1)]) (pc1 := 8) dX7_sendToAll_7 rfl (by decide) rfl rfl ?_
  obtain ⟨j4, ej4, h⟩ := gJon_s h
  have kj4 : ∀ (μ3 : gM), j4 μ3 = some μ' → JR p l e ({ frames := 5, cells := 0, slots := 0, locals := 115 } : Room) s m args below meth c cX7_sendToAll 4 RX7 D tc sa ad sz (none) μ' μ3 38 [] [] := by
    intro μ3 h
    rw [ej4] at h
    try dsimp only at h
    cases h
    exact J_vret hr hlk dX7_sendToAll_38
  clear ej4
  refine J_sub [2, 3, 1, 0] (lv1 := [(0, .ref (ad 0 0)), (1, .int a1), (2, .int r2), (3, .int 0)]) rfl ?_
  refine gFx2_s (P := fun x5 μ6 => JR p l e ({ frames := 5, cells := 0, slots := 0, locals := 115 } : Room) s m args below meth c cX7_sendToAll 4 RX7 D tc sa ad sz (none) μ' μ6 8 [(0, .ref (ad 0 0)), (1, .int a1), (2, .int r2), (3, .int x5)] []) (fun rec7 ihrec7 x5 μ6 h => ?_) _ _ _ h
  try dsimp only at h
  refine J_iload_n (i := 3) (q := 3) (pc1 := 9) dX7_sendToAll_8 rfl rfl rfl ?_
  refine J_iconst (v := 5) (pc1 := 10) dX7_sendToAll_9 (by decide) rfl ?_
  refine J_icmp_ge (tgt := 38) (pc1 := 13) dX7_sendToAll_10 (by decide) (fun q8 => ?_) rfl (fun q8 => ?_)
  · rw [if_pos q8] at h
    refine J_sub [] (lv1 := []) rfl ?_
    exact kj4 _ h
  · rw [if_neg q8] at h
    refine J_iload_n (i := 3) (q := 3) (pc1 := 14) dX7_sendToAll_13 rfl rfl rfl ?_
    refine J_iload_n (i := 1) (q := 1) (pc1 := 15) dX7_sendToAll_14 rfl rfl rfl ?_
    refine J_icmp_eq (tgt := 32) (pc1 := 18) dX7_sendToAll_15 (by decide) (fun q9 => ?_) rfl (fun q9 => ?_)
    · rw [if_pos q9] at h
      refine J_iinc (i := 3) (q := 3) (v := x5 + 1) (lv1 := [(3, .int (x5 + 1)), (0, .ref (ad 0 0)), (1, .int a1), (2, .int r2)]) (pc1 := 35) dX7_sendToAll_32 rfl rfl (by decide) rfl rfl ?_
      refine J_goto (tgt := 8) dX7_sendToAll_35 (by decide) ?_
      refine J_sub [1, 2, 3, 0] (lv1 := [(0, .ref (ad 0 0)), (1, .int a1), (2, .int r2), (3, .int (x5 + 1))]) rfl ?_
      exact ihrec7 _ _ h
    · rw [if_neg q9] at h
      refine J_iload_n (i := 2) (q := 2) (pc1 := 19) dX7_sendToAll_18 rfl rfl rfl ?_
      refine J_iload_n (i := 3) (q := 3) (pc1 := 20) dX7_sendToAll_19 rfl rfl rfl ?_
      obtain ⟨r11, hc10, h⟩ := gBp_s h
      refine J_callS (As := [.int r2, .int x5]) (st := []) (st1 := [.int r11]) (pc1 := 23) (kX7_has l D tc sa ad hI r2 x5 μ6 r11 hc10) wcX7_has wlX7_89 rfl ⟨rfl, rfl, Nat.le_of_ble_eq_true rfl, Nat.le_of_ble_eq_true rfl⟩ ⟨Nat.zero_le _, Nat.zero_le _⟩ (Nat.le_of_ble_eq_true rfl) dX7_sendToAll_20 rfl rfl ?_
      refine J_if_eq (tgt := 32) (pc1 := 26) dX7_sendToAll_23 (by decide) (fun q12 => ?_) rfl (fun q12 => ?_)
      · rw [if_pos q12] at h
        refine J_iinc (i := 3) (q := 3) (v := x5 + 1) (lv1 := [(3, .int (x5 + 1)), (0, .ref (ad 0 0)), (1, .int a1), (2, .int r2)]) (pc1 := 35) dX7_sendToAll_32 rfl rfl (by decide) rfl rfl ?_
        refine J_goto (tgt := 8) dX7_sendToAll_35 (by decide) ?_
        refine J_sub [1, 2, 3, 0] (lv1 := [(0, .ref (ad 0 0)), (1, .int a1), (2, .int r2), (3, .int (x5 + 1))]) rfl ?_
        exact ihrec7 _ _ h
      · rw [if_neg q12] at h
        refine J_aload_n (i := 0) (q := 0) (pc1 := 27) dX7_sendToAll_26 rfl rfl rfl ?_
        refine J_iload_n (i := 1) (q := 1) (pc1 := 28) dX7_sendToAll_27 rfl rfl rfl ?_
        refine J_iload_n (i := 3) (q := 3) (pc1 := 29) dX7_sendToAll_28 rfl rfl rfl ?_
        obtain ⟨μ14, hc13, h⟩ := gBp_s h
        refine J_callV (As := [.int a1, .int x5]) (ad := ad) (f := 0) (i := 0) (st := []) (st1 := []) (pc1 := 32) (kX7_sendTo l D tc sa ad hI a1 x5 μ6 μ14 hc13) wcX7_sendTo wlX7_111 eR0 rfl rfl rfl ⟨rfl, rfl, Nat.le_of_ble_eq_true rfl, Nat.le_of_ble_eq_true rfl⟩ ⟨Nat.zero_le _, Nat.zero_le _⟩ (Nat.le_of_ble_eq_true rfl) dX7_sendToAll_29 rfl rfl ?_
        refine J_iinc (i := 3) (q := 3) (v := x5 + 1) (lv1 := [(3, .int (x5 + 1)), (0, .ref (ad 0 0)), (1, .int a1), (2, .int r2)]) (pc1 := 35) dX7_sendToAll_32 rfl rfl (by decide) rfl rfl ?_
        refine J_goto (tgt := 8) dX7_sendToAll_35 (by decide) ?_
        refine J_sub [1, 2, 3, 0] (lv1 := [(0, .ref (ad 0 0)), (1, .int a1), (2, .int r2), (3, .int (x5 + 1))]) rfl ?_
        exact ihrec7 _ _ h
def mX7_matching (a1 : Int32) (a2 : Int32) (μ : gM) : Option Int32 :=
  gLet (α := Int32) (1 <<< (a1 &&& 31)) fun x1 =>
  gJon (fun (x5 : Int32) =>
      some x5) fun j6 =>
  gFx2 (fun rec9 (x7 : Int32) (x8 : Int32) =>
      if 5 ≤ x8 then
        j6 x7
      else
        gJon (fun (x11 : Int32) =>
            gLet (α := Int32) (x7 ||| x11) fun x13 =>
            rec9 x13 (x8 + 1)) fun j12 =>
        gJon (fun (u18 : Unit) =>
            j12 0) fun j17 =>
        if x8 = a1 then
          j17 () 
        else
          gBp (mX7_of a1 (18 + x8) μ) fun r21 =>
          gLet (α := Int32) (if r21 < a2 then 0 else 1 <<< (x8 &&& 31)) fun x22 =>
          gLet (α := Int32) (x7 ||| x22) fun x26 =>
          rec9 x26 (x8 + 1)) 1000000 x1 0
set_option maxHeartbeats 4000000 in
set_option maxRecDepth 100000 in
theorem kX7_matching (l : Launch) (D : va_G) (tc : Nat → ClassId) (sa : Nat → Nat) (ad : Nat → Nat → Nat) (hI : gI gE_R ad) (a1 : Int32) (a2 : Int32) (μ : gM) (r : Int32) (h : mX7_matching a1 a2 μ = some r) : gMet l yX7_matching cX7_matching 5 (some .int) ({ frames := 1, cells := 0, slots := 0, locals := 22 } : Room) D gE_R gkd_R tc ad grh_R sa [.ref (ad 0 0), .int a1, .int a2] μ (some (.int r)) μ := by
  refine gMet_of hI ⟨by decide +kernel, Nat.le_of_ble_eq_true rfl⟩ (fun p e s m args below meth c sz hr hlk => ?_)
  unfold mX7_matching at h
  show JR p l e ({ frames := 1, cells := 0, slots := 0, locals := 22 } : Room) s m args below meth c cX7_matching 5 RX7 D tc sa ad sz (some (.int r)) μ μ 0 [(0, .ref (ad 0 0)), (1, .int a1), (2, .int a2)] []
  refine J_iconst (v := 1) (pc1 := 1) dX7_matching_0 (by decide) rfl ?_
  refine J_iload_n (i := 1) (q := 1) (pc1 := 2) dX7_matching_1 rfl rfl rfl ?_
  refine J_ishl (pc1 := 3) dX7_matching_2 rfl ?_
  obtain ⟨x1, e3, h⟩ := gLet_s h
  refine J_top (fun y2 e4 => ?_)
  have e4x : x1 = y2 := (e4.trans e3.symm).symm
  subst e4x
  refine J_istore_n (i := 3) (lv1 := [(3, .int x1), (0, .ref (ad 0 0)), (1, .int a1), (2, .int a2)]) (pc1 := 4) dX7_matching_3 rfl (by decide) rfl rfl ?_
  refine J_iconst (v := 0) (pc1 := 5) dX7_matching_4 (by decide) rfl ?_
  refine J_istore (i := 4) (lv1 := [(4, .int 0), (3, .int x1), (0, .ref (ad 0 0)), (1, .int a1), (2, .int a2)]) (pc1 := 7) dX7_matching_5 (by decide) rfl rfl ?_
  obtain ⟨j6, ej6, h⟩ := gJon_s h
  have kj6 : ∀ (x5 : Int32), j6 x5 = some r → JR p l e ({ frames := 1, cells := 0, slots := 0, locals := 22 } : Room) s m args below meth c cX7_matching 5 RX7 D tc sa ad sz (some (.int r)) μ μ 50 [(3, .int x5)] [] := by
    intro x5 h
    rw [ej6] at h
    try dsimp only at h
    refine J_iload_n (i := 3) (q := 0) (pc1 := 51) dX7_matching_50 rfl rfl rfl ?_
    cases h
    exact J_iret hr hlk dX7_matching_51
  clear ej6
  refine J_sub [2, 3, 4, 1, 0] (lv1 := [(0, .ref (ad 0 0)), (1, .int a1), (2, .int a2), (3, .int x1), (4, .int 0)]) rfl ?_
  refine gFx2_s (P := fun x7 x8 => JR p l e ({ frames := 1, cells := 0, slots := 0, locals := 22 } : Room) s m args below meth c cX7_matching 5 RX7 D tc sa ad sz (some (.int r)) μ μ 7 [(0, .ref (ad 0 0)), (1, .int a1), (2, .int a2), (3, .int x7), (4, .int x8)] []) (fun rec9 ihrec9 x7 x8 h => ?_) _ _ _ h
  try dsimp only at h
  refine J_iload (i := 4) (q := 4) (pc1 := 9) dX7_matching_7 rfl rfl ?_
  refine J_iconst (v := 5) (pc1 := 10) dX7_matching_9 (by decide) rfl ?_
  refine J_icmp_ge (tgt := 50) (pc1 := 13) dX7_matching_10 (by decide) (fun q10 => ?_) rfl (fun q10 => ?_)
  · rw [if_pos q10] at h
    refine J_sub [3] (lv1 := [(3, .int x7)]) rfl ?_
    exact kj6 _ h
  · rw [if_neg q10] at h
    refine J_iload_n (i := 3) (q := 3) (pc1 := 14) dX7_matching_13 rfl rfl rfl ?_
    refine J_iload (i := 4) (q := 4) (pc1 := 16) dX7_matching_14 rfl rfl ?_
    refine J_iload_n (i := 1) (q := 1) (pc1 := 17) dX7_matching_16 rfl rfl rfl ?_
    obtain ⟨j12, ej12, h⟩ := gJon_s h
    have kj12 : ∀ (x11 : Int32), j12 x11 = some r → JR p l e ({ frames := 1, cells := 0, slots := 0, locals := 22 } : Room) s m args below meth c cX7_matching 5 RX7 D tc sa ad sz (some (.int r)) μ μ 42 [(0, .ref (ad 0 0)), (1, .int a1), (2, .int a2), (4, .int x8)] [.int x11, .int x7] := by
      intro x11 h
      rw [ej12] at h
      try dsimp only at h
      refine J_ior (pc1 := 43) dX7_matching_42 rfl ?_
      obtain ⟨x13, e15, h⟩ := gLet_s h
      refine J_top (fun y14 e16 => ?_)
      have e16x : x13 = y14 := (e16.trans e15.symm).symm
      subst e16x
      refine J_istore_n (i := 3) (lv1 := [(3, .int x13), (0, .ref (ad 0 0)), (1, .int a1), (2, .int a2), (4, .int x8)]) (pc1 := 44) dX7_matching_43 rfl (by decide) rfl rfl ?_
      refine J_iinc (i := 4) (q := 4) (v := x8 + 1) (lv1 := [(4, .int (x8 + 1)), (3, .int x13), (0, .ref (ad 0 0)), (1, .int a1), (2, .int a2)]) (pc1 := 47) dX7_matching_44 rfl rfl (by decide) rfl rfl ?_
      refine J_goto (tgt := 7) dX7_matching_47 (by decide) ?_
      refine J_sub [2, 3, 4, 1, 0] (lv1 := [(0, .ref (ad 0 0)), (1, .int a1), (2, .int a2), (3, .int x13), (4, .int (x8 + 1))]) rfl ?_
      exact ihrec9 _ _ h
    clear ej12
    obtain ⟨j17, ej17, h⟩ := gJon_s h
    have kj17 : ∀ (u18 : Unit), j17 u18 = some r → JR p l e ({ frames := 1, cells := 0, slots := 0, locals := 22 } : Room) s m args below meth c cX7_matching 5 RX7 D tc sa ad sz (some (.int r)) μ μ 41 [(0, .ref (ad 0 0)), (1, .int a1), (2, .int a2), (4, .int x8)] [.int x7] := by
      intro u18 h
      rw [ej17] at h
      try dsimp only at h
      refine J_iconst (v := 0) (pc1 := 42) dX7_matching_41 (by decide) rfl ?_
      exact kj12 _ h
    clear ej17
    refine J_icmp_eq (tgt := 41) (pc1 := 20) dX7_matching_17 (by decide) (fun q19 => ?_) rfl (fun q19 => ?_)
    · rw [if_pos q19] at h
      refine J_sub [0, 1, 2, 4] (lv1 := [(0, .ref (ad 0 0)), (1, .int a1), (2, .int a2), (4, .int x8)]) rfl ?_
      exact kj17 ()  h
    · rw [if_neg q19] at h
      refine J_aload_n (i := 0) (q := 0) (pc1 := 21) dX7_matching_20 rfl rfl rfl ?_
      refine J_iload_n (i := 1) (q := 1) (pc1 := 22) dX7_matching_21 rfl rfl rfl ?_
      refine J_bipush (v := 18) (pc1 := 24) dX7_matching_22 (by decide) rfl ?_
      refine J_iload (i := 4) (q := 4) (pc1 := 26) dX7_matching_24 rfl rfl ?_
      refine J_iadd (pc1 := 27) dX7_matching_26 rfl ?_
      obtain ⟨r21, hc20, h⟩ := gBp_s h
      refine J_callV (As := [.int a1, .int (18 + x8)]) (ad := ad) (f := 0) (i := 0) (st := [.int x7]) (st1 := [.int r21, .int x7]) (pc1 := 30) (kX7_of l D tc sa ad hI a1 (18 + x8) μ r21 hc20) wcX7_of wlX7_38 eR0 rfl rfl rfl ⟨rfl, rfl, Nat.le_of_ble_eq_true rfl, Nat.le_of_ble_eq_true rfl⟩ ⟨Nat.zero_le _, Nat.zero_le _⟩ (Nat.le_of_ble_eq_true rfl) dX7_matching_27 rfl rfl ?_
      refine J_iload_n (i := 2) (q := 2) (pc1 := 31) dX7_matching_30 rfl rfl rfl ?_
      obtain ⟨x22, e23, h⟩ := gLet_s h
      have k24 : JR p l e ({ frames := 1, cells := 0, slots := 0, locals := 22 } : Room) s m args below meth c cX7_matching 5 RX7 D tc sa ad sz (some (.int r)) μ μ 42 [(0, .ref (ad 0 0)), (1, .int a1), (2, .int a2), (3, .int x7), (4, .int x8)] [.int x22, .int x7] := by
        refine J_ior (pc1 := 43) dX7_matching_42 rfl ?_
        obtain ⟨x26, e28, h⟩ := gLet_s h
        refine J_top (fun y27 e29 => ?_)
        have e29x : x26 = y27 := (e29.trans e28.symm).symm
        subst e29x
        refine J_istore_n (i := 3) (lv1 := [(3, .int x26), (0, .ref (ad 0 0)), (1, .int a1), (2, .int a2), (4, .int x8)]) (pc1 := 44) dX7_matching_43 rfl (by decide) rfl rfl ?_
        refine J_iinc (i := 4) (q := 4) (v := x8 + 1) (lv1 := [(4, .int (x8 + 1)), (3, .int x26), (0, .ref (ad 0 0)), (1, .int a1), (2, .int a2)]) (pc1 := 47) dX7_matching_44 rfl rfl (by decide) rfl rfl ?_
        refine J_goto (tgt := 7) dX7_matching_47 (by decide) ?_
        refine J_sub [2, 3, 4, 1, 0] (lv1 := [(0, .ref (ad 0 0)), (1, .int a1), (2, .int a2), (3, .int x26), (4, .int (x8 + 1))]) rfl ?_
        exact ihrec9 _ _ h
      refine J_icmp_lt (tgt := 41) (pc1 := 34) dX7_matching_31 (by decide) (fun q25 => ?_) rfl (fun q25 => ?_)
      · rw [if_pos q25] at e23
        subst e23
        refine J_iconst (v := 0) (pc1 := 42) dX7_matching_41 (by decide) rfl ?_
        exact k24
      · rw [if_neg q25] at e23
        subst e23
        refine J_iconst (v := 1) (pc1 := 35) dX7_matching_34 (by decide) rfl ?_
        refine J_iload (i := 4) (q := 4) (pc1 := 37) dX7_matching_35 rfl rfl ?_
        refine J_ishl (pc1 := 38) dX7_matching_37 rfl ?_
        refine J_goto (tgt := 42) dX7_matching_38 (by decide) ?_
        exact k24
def mX7_commit (a1 : Int32) (μ : gM) : Option gM :=
  gBp (mX7_last a1 μ) fun r2 =>
  gJon (fun (μ3 : gM) =>
      gBp (mX7_configuration a1 μ3) fun r6 =>
      gBp (mX7_of a1 4 μ3) fun r8 =>
      gLet (α := Int32) (if r8 < r6 then 0 else 1) fun x9 =>
      gBp (mX7_oldOf a1 r6 μ3) fun r14 =>
      gJon (fun (u26 : Unit) =>
          if x9 = 0 then
            some μ3
          else
            gBp (mX7_newOf a1 r6 μ3) fun r18 =>
            gBp (mX7_has r18 a1 μ3) fun r20 =>
            if r20 = 0 then
              gBp (mX7_set a1 1 0 μ3) fun μ23 =>
              gBp (mX7_resetTimer a1 μ23) fun μ25 =>
              some μ25
            else
              some μ3) fun j15 =>
      if r14 = 0 then
        j15 () 
      else
        if x9 = 0 then
          j15 () 
        else
          gBp (mX7_of a1 12 μ3) fun r30 =>
          if 24 ≤ r30 then
            some μ3
          else
            gBp (mX7_of a1 2 μ3) fun r33 =>
            gBp (mX7_newOf a1 r6 μ3) fun r35 =>
            gBp (mX7_add a1 r33 2 r35 μ3) fun μ37 =>
            some μ37) fun j4 =>
  gFx2 (fun rec40 (x38 : Int32) (μ39 : gM) =>
      gBp (mX7_of a1 4 μ39) fun r42 =>
      if x38 ≤ r42 then
        j4 μ39
      else
        gBp (mX7_termAt a1 x38 μ39) fun r45 =>
        gBp (mX7_of a1 2 μ39) fun r47 =>
        if r45 = r47 then
          gBp (mX7_matching a1 x38 μ39) fun r50 =>
          gBp (mX7_isQuorum a1 r50 μ39) fun r52 =>
          if r52 = 0 then
            rec40 (x38 + (-1)) μ39
          else
            gBp (mX7_set a1 4 x38 μ39) fun μ55 =>
            rec40 (x38 + (-1)) μ55
        else
          rec40 (x38 + (-1)) μ39) 1000000 r2 μ
set_option maxHeartbeats 4000000 in
set_option maxRecDepth 100000 in
theorem kX7_commit (l : Launch) (D : va_G) (tc : Nat → ClassId) (sa : Nat → Nat) (ad : Nat → Nat → Nat) (hI : gI gE_R ad) (a1 : Int32) (μ : gM) (μ' : gM) (h : mX7_commit a1 μ = some μ') : gMet l yX7_commit cX7_commit 4 (none) ({ frames := 5, cells := 0, slots := 0, locals := 114 } : Room) D gE_R gkd_R tc ad grh_R sa [.ref (ad 0 0), .int a1] μ (none) μ' := by
  refine gMet_of hI ⟨by decide +kernel, Nat.le_of_ble_eq_true rfl⟩ (fun p e s m args below meth c sz hr hlk => ?_)
  unfold mX7_commit at h
  show JR p l e ({ frames := 5, cells := 0, slots := 0, locals := 114 } : Room) s m args below meth c cX7_commit 4 RX7 D tc sa ad sz (none) μ' μ 0 [(0, .ref (ad 0 0)), (1, .int a1)] []
  refine J_aload_n (i := 0) (q := 0) (pc1 := 1) dX7_commit_0 rfl rfl rfl ?_
  refine J_iload_n (i := 1) (q := 1) (pc1 := 2) dX7_commit_1 rfl rfl rfl ?_
  obtain ⟨r2, hc1, h⟩ := gBp_s h
  refine J_callV (As := [.int a1]) (ad := ad) (f := 0) (i := 0) (st := []) (st1 := [.int r2]) (pc1 := 5) (kX7_last l D tc sa ad hI a1 μ r2 hc1) wcX7_last wlX7_67 eR0 rfl rfl rfl ⟨rfl, rfl, Nat.le_of_ble_eq_true rfl, Nat.le_of_ble_eq_true rfl⟩ ⟨Nat.zero_le _, Nat.zero_le _⟩ (Nat.le_of_ble_eq_true rfl) dX7_commit_2 rfl rfl ?_
  refine J_istore_n (i := 2) (lv1 := [(2, .int r2), (0, .ref (ad 0 0)), (1, .int a1)]) (pc1 := 6) dX7_commit_5 rfl (by decide) rfl rfl ?_
  obtain ⟨j4, ej4, h⟩ := gJon_s h
  have kj4 : ∀ (μ3 : gM), j4 μ3 = some μ' → JR p l e ({ frames := 5, cells := 0, slots := 0, locals := 114 } : Room) s m args below meth c cX7_commit 4 RX7 D tc sa ad sz (none) μ' μ3 58 [(0, .ref (ad 0 0)), (1, .int a1)] [] := by
    intro μ3 h
    rw [ej4] at h
    try dsimp only at h
    refine J_aload_n (i := 0) (q := 0) (pc1 := 59) dX7_commit_58 rfl rfl rfl ?_
    refine J_iload_n (i := 1) (q := 1) (pc1 := 60) dX7_commit_59 rfl rfl rfl ?_
    obtain ⟨r6, hc5, h⟩ := gBp_s h
    refine J_callV (As := [.int a1]) (ad := ad) (f := 0) (i := 0) (st := []) (st1 := [.int r6]) (pc1 := 63) (kX7_configuration l D tc sa ad hI a1 μ3 r6 hc5) wcX7_configuration wlX7_73 eR0 rfl rfl rfl ⟨rfl, rfl, Nat.le_of_ble_eq_true rfl, Nat.le_of_ble_eq_true rfl⟩ ⟨Nat.zero_le _, Nat.zero_le _⟩ (Nat.le_of_ble_eq_true rfl) dX7_commit_60 rfl rfl ?_
    refine J_istore_n (i := 2) (lv1 := [(2, .int r6), (0, .ref (ad 0 0)), (1, .int a1)]) (pc1 := 64) dX7_commit_63 rfl (by decide) rfl rfl ?_
    refine J_iload_n (i := 2) (q := 0) (pc1 := 65) dX7_commit_64 rfl rfl rfl ?_
    refine J_aload_n (i := 0) (q := 1) (pc1 := 66) dX7_commit_65 rfl rfl rfl ?_
    refine J_iload_n (i := 1) (q := 2) (pc1 := 67) dX7_commit_66 rfl rfl rfl ?_
    refine J_iconst (v := 4) (pc1 := 68) dX7_commit_67 (by decide) rfl ?_
    obtain ⟨r8, hc7, h⟩ := gBp_s h
    refine J_callV (As := [.int a1, .int 4]) (ad := ad) (f := 0) (i := 0) (st := [.int r6]) (st1 := [.int r8, .int r6]) (pc1 := 71) (kX7_of l D tc sa ad hI a1 4 μ3 r8 hc7) wcX7_of wlX7_38 eR0 rfl rfl rfl ⟨rfl, rfl, Nat.le_of_ble_eq_true rfl, Nat.le_of_ble_eq_true rfl⟩ ⟨Nat.zero_le _, Nat.zero_le _⟩ (Nat.le_of_ble_eq_true rfl) dX7_commit_68 rfl rfl ?_
    obtain ⟨x9, e10, h⟩ := gLet_s h
    have k11 : JR p l e ({ frames := 5, cells := 0, slots := 0, locals := 114 } : Room) s m args below meth c cX7_commit 4 RX7 D tc sa ad sz (none) μ' μ3 79 [(2, .int r6), (0, .ref (ad 0 0)), (1, .int a1)] [.int x9] := by
      refine J_istore_n (i := 3) (lv1 := [(3, .int x9), (2, .int r6), (0, .ref (ad 0 0)), (1, .int a1)]) (pc1 := 80) dX7_commit_79 rfl (by decide) rfl rfl ?_
      refine J_aload_n (i := 0) (q := 2) (pc1 := 81) dX7_commit_80 rfl rfl rfl ?_
      refine J_iload_n (i := 1) (q := 3) (pc1 := 82) dX7_commit_81 rfl rfl rfl ?_
      refine J_iload_n (i := 2) (q := 1) (pc1 := 83) dX7_commit_82 rfl rfl rfl ?_
      obtain ⟨r14, hc13, h⟩ := gBp_s h
      refine J_callV (As := [.int a1, .int r6]) (ad := ad) (f := 0) (i := 0) (st := []) (st1 := [.int r14]) (pc1 := 86) (kX7_oldOf l D tc sa ad hI a1 r6 μ3 r14 hc13) wcX7_oldOf wlX7_76 eR0 rfl rfl rfl ⟨rfl, rfl, Nat.le_of_ble_eq_true rfl, Nat.le_of_ble_eq_true rfl⟩ ⟨Nat.zero_le _, Nat.zero_le _⟩ (Nat.le_of_ble_eq_true rfl) dX7_commit_83 rfl rfl ?_
      obtain ⟨j15, ej15, h⟩ := gJon_s h
      have kj15 : ∀ (u26 : Unit), j15 u26 = some μ' → JR p l e ({ frames := 5, cells := 0, slots := 0, locals := 114 } : Room) s m args below meth c cX7_commit 4 RX7 D tc sa ad sz (none) μ' μ3 126 [(0, .ref (ad 0 0)), (1, .int a1), (2, .int r6), (3, .int x9)] [] := by
        intro u26 h
        rw [ej15] at h
        try dsimp only at h
        refine J_iload_n (i := 3) (q := 3) (pc1 := 127) dX7_commit_126 rfl rfl rfl ?_
        refine J_if_eq (tgt := 155) (pc1 := 130) dX7_commit_127 (by decide) (fun q16 => ?_) rfl (fun q16 => ?_)
        · rw [if_pos q16] at h
          cases h
          exact J_vret hr hlk dX7_commit_155
        · rw [if_neg q16] at h
          refine J_aload_n (i := 0) (q := 0) (pc1 := 131) dX7_commit_130 rfl rfl rfl ?_
          refine J_iload_n (i := 1) (q := 1) (pc1 := 132) dX7_commit_131 rfl rfl rfl ?_
          refine J_iload_n (i := 2) (q := 2) (pc1 := 133) dX7_commit_132 rfl rfl rfl ?_
          obtain ⟨r18, hc17, h⟩ := gBp_s h
          refine J_callV (As := [.int a1, .int r6]) (ad := ad) (f := 0) (i := 0) (st := []) (st1 := [.int r18]) (pc1 := 136) (kX7_newOf l D tc sa ad hI a1 r6 μ3 r18 hc17) wcX7_newOf wlX7_79 eR0 rfl rfl rfl ⟨rfl, rfl, Nat.le_of_ble_eq_true rfl, Nat.le_of_ble_eq_true rfl⟩ ⟨Nat.zero_le _, Nat.zero_le _⟩ (Nat.le_of_ble_eq_true rfl) dX7_commit_133 rfl rfl ?_
          refine J_iload_n (i := 1) (q := 1) (pc1 := 137) dX7_commit_136 rfl rfl rfl ?_
          obtain ⟨r20, hc19, h⟩ := gBp_s h
          refine J_callS (As := [.int r18, .int a1]) (st := []) (st1 := [.int r20]) (pc1 := 140) (kX7_has l D tc sa ad hI r18 a1 μ3 r20 hc19) wcX7_has wlX7_89 rfl ⟨rfl, rfl, Nat.le_of_ble_eq_true rfl, Nat.le_of_ble_eq_true rfl⟩ ⟨Nat.zero_le _, Nat.zero_le _⟩ (Nat.le_of_ble_eq_true rfl) dX7_commit_137 rfl rfl ?_
          refine J_if_ne (tgt := 155) (pc1 := 143) dX7_commit_140 (by decide) (fun q21 => ?_) rfl (fun q21 => ?_)
          · rw [if_neg q21] at h
            cases h
            exact J_vret hr hlk dX7_commit_155
          · rw [if_pos q21] at h
            refine J_aload_n (i := 0) (q := 0) (pc1 := 144) dX7_commit_143 rfl rfl rfl ?_
            refine J_iload_n (i := 1) (q := 1) (pc1 := 145) dX7_commit_144 rfl rfl rfl ?_
            refine J_iconst (v := 1) (pc1 := 146) dX7_commit_145 (by decide) rfl ?_
            refine J_iconst (v := 0) (pc1 := 147) dX7_commit_146 (by decide) rfl ?_
            obtain ⟨μ23, hc22, h⟩ := gBp_s h
            refine J_callV (As := [.int a1, .int 1, .int 0]) (ad := ad) (f := 0) (i := 0) (st := []) (st1 := []) (pc1 := 150) (kX7_set l D tc sa ad hI a1 1 0 μ3 μ23 hc22) wcX7_set wlX7_43 eR0 rfl rfl rfl ⟨rfl, rfl, Nat.le_of_ble_eq_true rfl, Nat.le_of_ble_eq_true rfl⟩ ⟨Nat.zero_le _, Nat.zero_le _⟩ (Nat.le_of_ble_eq_true rfl) dX7_commit_147 rfl rfl ?_
            refine J_aload_n (i := 0) (q := 0) (pc1 := 151) dX7_commit_150 rfl rfl rfl ?_
            refine J_iload_n (i := 1) (q := 1) (pc1 := 152) dX7_commit_151 rfl rfl rfl ?_
            obtain ⟨μ25, hc24, h⟩ := gBp_s h
            refine J_callV (As := [.int a1]) (ad := ad) (f := 0) (i := 0) (st := []) (st1 := []) (pc1 := 155) (kX7_resetTimer l D tc sa ad hI a1 μ23 μ25 hc24) wcX7_resetTimer wlX7_47 eR0 rfl rfl rfl ⟨rfl, rfl, Nat.le_of_ble_eq_true rfl, Nat.le_of_ble_eq_true rfl⟩ ⟨Nat.zero_le _, Nat.zero_le _⟩ (Nat.le_of_ble_eq_true rfl) dX7_commit_152 rfl rfl ?_
            cases h
            exact J_vret hr hlk dX7_commit_155
      clear ej15
      refine J_if_eq (tgt := 126) (pc1 := 89) dX7_commit_86 (by decide) (fun q27 => ?_) rfl (fun q27 => ?_)
      · rw [if_pos q27] at h
        refine J_sub [2, 3, 1, 0] (lv1 := [(0, .ref (ad 0 0)), (1, .int a1), (2, .int r6), (3, .int x9)]) rfl ?_
        exact kj15 ()  h
      · rw [if_neg q27] at h
        refine J_iload_n (i := 3) (q := 0) (pc1 := 90) dX7_commit_89 rfl rfl rfl ?_
        refine J_if_eq (tgt := 126) (pc1 := 93) dX7_commit_90 (by decide) (fun q28 => ?_) rfl (fun q28 => ?_)
        · rw [if_pos q28] at h
          refine J_sub [2, 3, 1, 0] (lv1 := [(0, .ref (ad 0 0)), (1, .int a1), (2, .int r6), (3, .int x9)]) rfl ?_
          exact kj15 ()  h
        · rw [if_neg q28] at h
          refine J_aload_n (i := 0) (q := 2) (pc1 := 94) dX7_commit_93 rfl rfl rfl ?_
          refine J_iload_n (i := 1) (q := 3) (pc1 := 95) dX7_commit_94 rfl rfl rfl ?_
          refine J_bipush (v := 12) (pc1 := 97) dX7_commit_95 (by decide) rfl ?_
          obtain ⟨r30, hc29, h⟩ := gBp_s h
          refine J_callV (As := [.int a1, .int 12]) (ad := ad) (f := 0) (i := 0) (st := []) (st1 := [.int r30]) (pc1 := 100) (kX7_of l D tc sa ad hI a1 12 μ3 r30 hc29) wcX7_of wlX7_38 eR0 rfl rfl rfl ⟨rfl, rfl, Nat.le_of_ble_eq_true rfl, Nat.le_of_ble_eq_true rfl⟩ ⟨Nat.zero_le _, Nat.zero_le _⟩ (Nat.le_of_ble_eq_true rfl) dX7_commit_97 rfl rfl ?_
          refine J_bipush (v := 24) (pc1 := 102) dX7_commit_100 (by decide) rfl ?_
          refine J_icmp_ge (tgt := 155) (pc1 := 105) dX7_commit_102 (by decide) (fun q31 => ?_) rfl (fun q31 => ?_)
          · rw [if_pos q31] at h
            cases h
            exact J_vret hr hlk dX7_commit_155
          · rw [if_neg q31] at h
            refine J_aload_n (i := 0) (q := 2) (pc1 := 106) dX7_commit_105 rfl rfl rfl ?_
            refine J_iload_n (i := 1) (q := 3) (pc1 := 107) dX7_commit_106 rfl rfl rfl ?_
            refine J_aload_n (i := 0) (q := 2) (pc1 := 108) dX7_commit_107 rfl rfl rfl ?_
            refine J_iload_n (i := 1) (q := 3) (pc1 := 109) dX7_commit_108 rfl rfl rfl ?_
            refine J_iconst (v := 2) (pc1 := 110) dX7_commit_109 (by decide) rfl ?_
            obtain ⟨r33, hc32, h⟩ := gBp_s h
            refine J_callV (As := [.int a1, .int 2]) (ad := ad) (f := 0) (i := 0) (st := [.int a1, .ref (ad 0 0)]) (st1 := [.int r33, .int a1, .ref (ad 0 0)]) (pc1 := 113) (kX7_of l D tc sa ad hI a1 2 μ3 r33 hc32) wcX7_of wlX7_38 eR0 rfl rfl rfl ⟨rfl, rfl, Nat.le_of_ble_eq_true rfl, Nat.le_of_ble_eq_true rfl⟩ ⟨Nat.zero_le _, Nat.zero_le _⟩ (Nat.le_of_ble_eq_true rfl) dX7_commit_110 rfl rfl ?_
            refine J_iconst (v := 2) (pc1 := 114) dX7_commit_113 (by decide) rfl ?_
            refine J_aload_n (i := 0) (q := 2) (pc1 := 115) dX7_commit_114 rfl rfl rfl ?_
            refine J_iload_n (i := 1) (q := 3) (pc1 := 116) dX7_commit_115 rfl rfl rfl ?_
            refine J_iload_n (i := 2) (q := 1) (pc1 := 117) dX7_commit_116 rfl rfl rfl ?_
            obtain ⟨r35, hc34, h⟩ := gBp_s h
            refine J_callV (As := [.int a1, .int r6]) (ad := ad) (f := 0) (i := 0) (st := [.int 2, .int r33, .int a1, .ref (ad 0 0)]) (st1 := [.int r35, .int 2, .int r33, .int a1, .ref (ad 0 0)]) (pc1 := 120) (kX7_newOf l D tc sa ad hI a1 r6 μ3 r35 hc34) wcX7_newOf wlX7_79 eR0 rfl rfl rfl ⟨rfl, rfl, Nat.le_of_ble_eq_true rfl, Nat.le_of_ble_eq_true rfl⟩ ⟨Nat.zero_le _, Nat.zero_le _⟩ (Nat.le_of_ble_eq_true rfl) dX7_commit_117 rfl rfl ?_
            obtain ⟨μ37, hc36, h⟩ := gBp_s h
            refine J_callV (As := [.int a1, .int r33, .int 2, .int r35]) (ad := ad) (f := 0) (i := 0) (st := []) (st1 := []) (pc1 := 123) (kX7_add l D tc sa ad hI a1 r33 2 r35 μ3 μ37 hc36) wcX7_add wlX7_120 eR0 rfl rfl rfl ⟨rfl, rfl, Nat.le_of_ble_eq_true rfl, Nat.le_of_ble_eq_true rfl⟩ ⟨Nat.zero_le _, Nat.zero_le _⟩ (Nat.le_of_ble_eq_true rfl) dX7_commit_120 rfl rfl ?_
            refine J_goto (tgt := 155) dX7_commit_123 (by decide) ?_
            cases h
            exact J_vret hr hlk dX7_commit_155
    refine J_icmp_gt (tgt := 78) (pc1 := 74) dX7_commit_71 (by decide) (fun q12 => ?_) rfl (fun q12 => ?_)
    · rw [if_pos q12] at e10
      subst e10
      refine J_iconst (v := 0) (pc1 := 79) dX7_commit_78 (by decide) rfl ?_
      exact k11
    · rw [if_neg q12] at e10
      subst e10
      refine J_iconst (v := 1) (pc1 := 75) dX7_commit_74 (by decide) rfl ?_
      refine J_goto (tgt := 79) dX7_commit_75 (by decide) ?_
      exact k11
  clear ej4
  refine J_sub [1, 2, 0] (lv1 := [(0, .ref (ad 0 0)), (1, .int a1), (2, .int r2)]) rfl ?_
  refine gFx2_s (P := fun x38 μ39 => JR p l e ({ frames := 5, cells := 0, slots := 0, locals := 114 } : Room) s m args below meth c cX7_commit 4 RX7 D tc sa ad sz (none) μ' μ39 6 [(0, .ref (ad 0 0)), (1, .int a1), (2, .int x38)] []) (fun rec40 ihrec40 x38 μ39 h => ?_) _ _ _ h
  try dsimp only at h
  refine J_iload_n (i := 2) (q := 2) (pc1 := 7) dX7_commit_6 rfl rfl rfl ?_
  refine J_aload_n (i := 0) (q := 0) (pc1 := 8) dX7_commit_7 rfl rfl rfl ?_
  refine J_iload_n (i := 1) (q := 1) (pc1 := 9) dX7_commit_8 rfl rfl rfl ?_
  refine J_iconst (v := 4) (pc1 := 10) dX7_commit_9 (by decide) rfl ?_
  obtain ⟨r42, hc41, h⟩ := gBp_s h
  refine J_callV (As := [.int a1, .int 4]) (ad := ad) (f := 0) (i := 0) (st := [.int x38]) (st1 := [.int r42, .int x38]) (pc1 := 13) (kX7_of l D tc sa ad hI a1 4 μ39 r42 hc41) wcX7_of wlX7_38 eR0 rfl rfl rfl ⟨rfl, rfl, Nat.le_of_ble_eq_true rfl, Nat.le_of_ble_eq_true rfl⟩ ⟨Nat.zero_le _, Nat.zero_le _⟩ (Nat.le_of_ble_eq_true rfl) dX7_commit_10 rfl rfl ?_
  refine J_icmp_le (tgt := 58) (pc1 := 16) dX7_commit_13 (by decide) (fun q43 => ?_) rfl (fun q43 => ?_)
  · rw [if_pos q43] at h
    refine J_sub [0, 1] (lv1 := [(0, .ref (ad 0 0)), (1, .int a1)]) rfl ?_
    exact kj4 _ h
  · rw [if_neg q43] at h
    refine J_aload_n (i := 0) (q := 0) (pc1 := 17) dX7_commit_16 rfl rfl rfl ?_
    refine J_iload_n (i := 1) (q := 1) (pc1 := 18) dX7_commit_17 rfl rfl rfl ?_
    refine J_iload_n (i := 2) (q := 2) (pc1 := 19) dX7_commit_18 rfl rfl rfl ?_
    obtain ⟨r45, hc44, h⟩ := gBp_s h
    refine J_callV (As := [.int a1, .int x38]) (ad := ad) (f := 0) (i := 0) (st := []) (st1 := [.int r45]) (pc1 := 22) (kX7_termAt l D tc sa ad hI a1 x38 μ39 r45 hc44) wcX7_termAt wlX7_99 eR0 rfl rfl rfl ⟨rfl, rfl, Nat.le_of_ble_eq_true rfl, Nat.le_of_ble_eq_true rfl⟩ ⟨Nat.zero_le _, Nat.zero_le _⟩ (Nat.le_of_ble_eq_true rfl) dX7_commit_19 rfl rfl ?_
    refine J_aload_n (i := 0) (q := 0) (pc1 := 23) dX7_commit_22 rfl rfl rfl ?_
    refine J_iload_n (i := 1) (q := 1) (pc1 := 24) dX7_commit_23 rfl rfl rfl ?_
    refine J_iconst (v := 2) (pc1 := 25) dX7_commit_24 (by decide) rfl ?_
    obtain ⟨r47, hc46, h⟩ := gBp_s h
    refine J_callV (As := [.int a1, .int 2]) (ad := ad) (f := 0) (i := 0) (st := [.int r45]) (st1 := [.int r47, .int r45]) (pc1 := 28) (kX7_of l D tc sa ad hI a1 2 μ39 r47 hc46) wcX7_of wlX7_38 eR0 rfl rfl rfl ⟨rfl, rfl, Nat.le_of_ble_eq_true rfl, Nat.le_of_ble_eq_true rfl⟩ ⟨Nat.zero_le _, Nat.zero_le _⟩ (Nat.le_of_ble_eq_true rfl) dX7_commit_25 rfl rfl ?_
    refine J_icmp_ne (tgt := 52) (pc1 := 31) dX7_commit_28 (by decide) (fun q48 => ?_) rfl (fun q48 => ?_)
    · rw [if_neg q48] at h
      refine J_iinc (i := 2) (q := 2) (v := x38 + (-1)) (lv1 := [(2, .int (x38 + (-1))), (0, .ref (ad 0 0)), (1, .int a1)]) (pc1 := 55) dX7_commit_52 rfl rfl (by decide) rfl rfl ?_
      refine J_goto (tgt := 6) dX7_commit_55 (by decide) ?_
      refine J_sub [1, 2, 0] (lv1 := [(0, .ref (ad 0 0)), (1, .int a1), (2, .int (x38 + (-1)))]) rfl ?_
      exact ihrec40 _ _ h
    · rw [if_pos q48] at h
      refine J_aload_n (i := 0) (q := 0) (pc1 := 32) dX7_commit_31 rfl rfl rfl ?_
      refine J_iload_n (i := 1) (q := 1) (pc1 := 33) dX7_commit_32 rfl rfl rfl ?_
      refine J_aload_n (i := 0) (q := 0) (pc1 := 34) dX7_commit_33 rfl rfl rfl ?_
      refine J_iload_n (i := 1) (q := 1) (pc1 := 35) dX7_commit_34 rfl rfl rfl ?_
      refine J_iload_n (i := 2) (q := 2) (pc1 := 36) dX7_commit_35 rfl rfl rfl ?_
      obtain ⟨r50, hc49, h⟩ := gBp_s h
      refine J_callV (As := [.int a1, .int x38]) (ad := ad) (f := 0) (i := 0) (st := [.int a1, .ref (ad 0 0)]) (st1 := [.int r50, .int a1, .ref (ad 0 0)]) (pc1 := 39) (kX7_matching l D tc sa ad hI a1 x38 μ39 r50 hc49) wcX7_matching wlX7_114 eR0 rfl rfl rfl ⟨rfl, rfl, Nat.le_of_ble_eq_true rfl, Nat.le_of_ble_eq_true rfl⟩ ⟨Nat.zero_le _, Nat.zero_le _⟩ (Nat.le_of_ble_eq_true rfl) dX7_commit_36 rfl rfl ?_
      obtain ⟨r52, hc51, h⟩ := gBp_s h
      refine J_callV (As := [.int a1, .int r50]) (ad := ad) (f := 0) (i := 0) (st := []) (st1 := [.int r52]) (pc1 := 42) (kX7_isQuorum l D tc sa ad hI a1 r50 μ39 r52 hc51) wcX7_isQuorum wlX7_117 eR0 rfl rfl rfl ⟨rfl, rfl, Nat.le_of_ble_eq_true rfl, Nat.le_of_ble_eq_true rfl⟩ ⟨Nat.zero_le _, Nat.zero_le _⟩ (Nat.le_of_ble_eq_true rfl) dX7_commit_39 rfl rfl ?_
      refine J_if_eq (tgt := 52) (pc1 := 45) dX7_commit_42 (by decide) (fun q53 => ?_) rfl (fun q53 => ?_)
      · rw [if_pos q53] at h
        refine J_iinc (i := 2) (q := 2) (v := x38 + (-1)) (lv1 := [(2, .int (x38 + (-1))), (0, .ref (ad 0 0)), (1, .int a1)]) (pc1 := 55) dX7_commit_52 rfl rfl (by decide) rfl rfl ?_
        refine J_goto (tgt := 6) dX7_commit_55 (by decide) ?_
        refine J_sub [1, 2, 0] (lv1 := [(0, .ref (ad 0 0)), (1, .int a1), (2, .int (x38 + (-1)))]) rfl ?_
        exact ihrec40 _ _ h
      · rw [if_neg q53] at h
        refine J_aload_n (i := 0) (q := 0) (pc1 := 46) dX7_commit_45 rfl rfl rfl ?_
        refine J_iload_n (i := 1) (q := 1) (pc1 := 47) dX7_commit_46 rfl rfl rfl ?_
        refine J_iconst (v := 4) (pc1 := 48) dX7_commit_47 (by decide) rfl ?_
        refine J_iload_n (i := 2) (q := 2) (pc1 := 49) dX7_commit_48 rfl rfl rfl ?_
        obtain ⟨μ55, hc54, h⟩ := gBp_s h
        refine J_callV (As := [.int a1, .int 4, .int x38]) (ad := ad) (f := 0) (i := 0) (st := []) (st1 := []) (pc1 := 52) (kX7_set l D tc sa ad hI a1 4 x38 μ39 μ55 hc54) wcX7_set wlX7_43 eR0 rfl rfl rfl ⟨rfl, rfl, Nat.le_of_ble_eq_true rfl, Nat.le_of_ble_eq_true rfl⟩ ⟨Nat.zero_le _, Nat.zero_le _⟩ (Nat.le_of_ble_eq_true rfl) dX7_commit_49 rfl rfl ?_
        refine J_iinc (i := 2) (q := 2) (v := x38 + (-1)) (lv1 := [(2, .int (x38 + (-1))), (0, .ref (ad 0 0)), (1, .int a1)]) (pc1 := 55) dX7_commit_52 rfl rfl (by decide) rfl rfl ?_
        refine J_goto (tgt := 6) dX7_commit_55 (by decide) ?_
        refine J_sub [1, 2, 0] (lv1 := [(0, .ref (ad 0 0)), (1, .int a1), (2, .int (x38 + (-1)))]) rfl ?_
        exact ihrec40 _ _ h
def mX7_append (a1 : Int32) (a2 : Int32) (a3 : Int32) (μ : gM) : Option gM :=
  gBp (mX7_of a1 2 μ) fun r2 =>
  gBp (mX7_add a1 r2 a2 a3 μ) fun μ4 =>
  gBp (mX7_commit a1 μ4) fun μ6 =>
  some μ6
set_option maxHeartbeats 4000000 in
set_option maxRecDepth 100000 in
theorem kX7_append (l : Launch) (D : va_G) (tc : Nat → ClassId) (sa : Nat → Nat) (ad : Nat → Nat → Nat) (hI : gI gE_R ad) (a1 : Int32) (a2 : Int32) (a3 : Int32) (μ : gM) (μ' : gM) (h : mX7_append a1 a2 a3 μ = some μ') : gMet l yX7_append cX7_append 4 (none) ({ frames := 6, cells := 0, slots := 0, locals := 137 } : Room) D gE_R gkd_R tc ad grh_R sa [.ref (ad 0 0), .int a1, .int a2, .int a3] μ (none) μ' := by
  refine gMet_of hI ⟨by decide +kernel, Nat.le_of_ble_eq_true rfl⟩ (fun p e s m args below meth c sz hr hlk => ?_)
  unfold mX7_append at h
  show JR p l e ({ frames := 6, cells := 0, slots := 0, locals := 137 } : Room) s m args below meth c cX7_append 4 RX7 D tc sa ad sz (none) μ' μ 0 [(0, .ref (ad 0 0)), (1, .int a1), (2, .int a2), (3, .int a3)] []
  refine J_aload_n (i := 0) (q := 0) (pc1 := 1) dX7_append_0 rfl rfl rfl ?_
  refine J_iload_n (i := 1) (q := 1) (pc1 := 2) dX7_append_1 rfl rfl rfl ?_
  refine J_aload_n (i := 0) (q := 0) (pc1 := 3) dX7_append_2 rfl rfl rfl ?_
  refine J_iload_n (i := 1) (q := 1) (pc1 := 4) dX7_append_3 rfl rfl rfl ?_
  refine J_iconst (v := 2) (pc1 := 5) dX7_append_4 (by decide) rfl ?_
  obtain ⟨r2, hc1, h⟩ := gBp_s h
  refine J_callV (As := [.int a1, .int 2]) (ad := ad) (f := 0) (i := 0) (st := [.int a1, .ref (ad 0 0)]) (st1 := [.int r2, .int a1, .ref (ad 0 0)]) (pc1 := 8) (kX7_of l D tc sa ad hI a1 2 μ r2 hc1) wcX7_of wlX7_38 eR0 rfl rfl rfl ⟨rfl, rfl, Nat.le_of_ble_eq_true rfl, Nat.le_of_ble_eq_true rfl⟩ ⟨Nat.zero_le _, Nat.zero_le _⟩ (Nat.le_of_ble_eq_true rfl) dX7_append_5 rfl rfl ?_
  refine J_iload_n (i := 2) (q := 2) (pc1 := 9) dX7_append_8 rfl rfl rfl ?_
  refine J_iload_n (i := 3) (q := 3) (pc1 := 10) dX7_append_9 rfl rfl rfl ?_
  obtain ⟨μ4, hc3, h⟩ := gBp_s h
  refine J_callV (As := [.int a1, .int r2, .int a2, .int a3]) (ad := ad) (f := 0) (i := 0) (st := []) (st1 := []) (pc1 := 13) (kX7_add l D tc sa ad hI a1 r2 a2 a3 μ μ4 hc3) wcX7_add wlX7_120 eR0 rfl rfl rfl ⟨rfl, rfl, Nat.le_of_ble_eq_true rfl, Nat.le_of_ble_eq_true rfl⟩ ⟨Nat.zero_le _, Nat.zero_le _⟩ (Nat.le_of_ble_eq_true rfl) dX7_append_10 rfl rfl ?_
  refine J_aload_n (i := 0) (q := 0) (pc1 := 14) dX7_append_13 rfl rfl rfl ?_
  refine J_iload_n (i := 1) (q := 1) (pc1 := 15) dX7_append_14 rfl rfl rfl ?_
  obtain ⟨μ6, hc5, h⟩ := gBp_s h
  refine J_callV (As := [.int a1]) (ad := ad) (f := 0) (i := 0) (st := []) (st1 := []) (pc1 := 18) (kX7_commit l D tc sa ad hI a1 μ4 μ6 hc5) wcX7_commit wlX7_124 eR0 rfl rfl rfl ⟨rfl, rfl, Nat.le_of_ble_eq_true rfl, Nat.le_of_ble_eq_true rfl⟩ ⟨Nat.zero_le _, Nat.zero_le _⟩ (Nat.le_of_ble_eq_true rfl) dX7_append_15 rfl rfl ?_
  cases h
  exact J_vret hr hlk dX7_append_18
def mX7_win (a1 : Int32) (μ : gM) : Option gM :=
  gBp (mX7_set a1 1 2 μ) fun μ2 =>
  gBp (mX7_set a1 5 3 μ2) fun μ4 =>
  gBp (mX7_tally 4 1 μ4) fun μ6 =>
  gBp (mX7_of a1 2 μ6) fun r8 =>
  gJon (fun (μ9 : gM) =>
      gJon (fun (μ11 : gM) =>
          gBp (mX7_of a1 12 μ11) fun r14 =>
          gJon (fun (μ15 : gM) =>
              gBp (mX7_sendToAll a1 μ15) fun μ18 =>
              some μ18) fun j16 =>
          if 24 ≤ r14 then
            j16 μ11
          else
            gBp (mX7_append a1 3 0 μ11) fun μ21 =>
            j16 μ21) fun j12 =>
      gFx2 (fun rec24 (x22 : Int32) (μ23 : gM) =>
          if 5 ≤ x22 then
            j12 μ23
          else
            gBp (mX7_last a1 μ23) fun r27 =>
            gBp (mX7_set a1 (13 + x22) (r27 + 1) μ23) fun μ29 =>
            gBp (mX7_set a1 (18 + x22) 0 μ29) fun μ31 =>
            gBp (mX7_set a1 (23 + x22) (-1) μ31) fun μ33 =>
            rec24 (x22 + 1) μ33) 1000000 0 μ9) fun j10 =>
  if 100 ≤ r8 then
    j10 μ6
  else
    gBp (mX7_of a1 2 μ6) fun r36 =>
    gChk (inb (16 + r36) 1616) <|
    gLet (α := gM) (w3 μ6 1 0 ((16 + r36).toNatClampNeg) a1) fun μ38 =>
    j10 μ38
set_option maxHeartbeats 4000000 in
set_option maxRecDepth 100000 in
theorem kX7_win (l : Launch) (D : va_G) (tc : Nat → ClassId) (sa : Nat → Nat) (ad : Nat → Nat → Nat) (hI : gI gE_R ad) (a1 : Int32) (μ : gM) (μ' : gM) (h : mX7_win a1 μ = some μ') : gMet l yX7_win cX7_win 3 (none) ({ frames := 7, cells := 0, slots := 0, locals := 160 } : Room) D gE_R gkd_R tc ad grh_R sa [.ref (ad 0 0), .int a1] μ (none) μ' := by
  refine gMet_of hI ⟨by decide +kernel, Nat.le_of_ble_eq_true rfl⟩ (fun p e s m args below meth c sz hr hlk => ?_)
  unfold mX7_win at h
  show JR p l e ({ frames := 7, cells := 0, slots := 0, locals := 160 } : Room) s m args below meth c cX7_win 3 RX7 D tc sa ad sz (none) μ' μ 0 [(0, .ref (ad 0 0)), (1, .int a1)] []
  refine J_aload_n (i := 0) (q := 0) (pc1 := 1) dX7_win_0 rfl rfl rfl ?_
  refine J_iload_n (i := 1) (q := 1) (pc1 := 2) dX7_win_1 rfl rfl rfl ?_
  refine J_iconst (v := 1) (pc1 := 3) dX7_win_2 (by decide) rfl ?_
  refine J_iconst (v := 2) (pc1 := 4) dX7_win_3 (by decide) rfl ?_
  obtain ⟨μ2, hc1, h⟩ := gBp_s h
  refine J_callV (As := [.int a1, .int 1, .int 2]) (ad := ad) (f := 0) (i := 0) (st := []) (st1 := []) (pc1 := 7) (kX7_set l D tc sa ad hI a1 1 2 μ μ2 hc1) wcX7_set wlX7_43 eR0 rfl rfl rfl ⟨rfl, rfl, Nat.le_of_ble_eq_true rfl, Nat.le_of_ble_eq_true rfl⟩ ⟨Nat.zero_le _, Nat.zero_le _⟩ (Nat.le_of_ble_eq_true rfl) dX7_win_4 rfl rfl ?_
  refine J_aload_n (i := 0) (q := 0) (pc1 := 8) dX7_win_7 rfl rfl rfl ?_
  refine J_iload_n (i := 1) (q := 1) (pc1 := 9) dX7_win_8 rfl rfl rfl ?_
  refine J_iconst (v := 5) (pc1 := 10) dX7_win_9 (by decide) rfl ?_
  refine J_iconst (v := 3) (pc1 := 11) dX7_win_10 (by decide) rfl ?_
  obtain ⟨μ4, hc3, h⟩ := gBp_s h
  refine J_callV (As := [.int a1, .int 5, .int 3]) (ad := ad) (f := 0) (i := 0) (st := []) (st1 := []) (pc1 := 14) (kX7_set l D tc sa ad hI a1 5 3 μ2 μ4 hc3) wcX7_set wlX7_43 eR0 rfl rfl rfl ⟨rfl, rfl, Nat.le_of_ble_eq_true rfl, Nat.le_of_ble_eq_true rfl⟩ ⟨Nat.zero_le _, Nat.zero_le _⟩ (Nat.le_of_ble_eq_true rfl) dX7_win_11 rfl rfl ?_
  refine J_aload_n (i := 0) (q := 0) (pc1 := 15) dX7_win_14 rfl rfl rfl ?_
  refine J_iconst (v := 4) (pc1 := 16) dX7_win_15 (by decide) rfl ?_
  refine J_iconst (v := 1) (pc1 := 17) dX7_win_16 (by decide) rfl ?_
  obtain ⟨μ6, hc5, h⟩ := gBp_s h
  refine J_callV (As := [.int 4, .int 1]) (ad := ad) (f := 0) (i := 0) (st := []) (st1 := []) (pc1 := 20) (kX7_tally l D tc sa ad hI 4 1 μ4 μ6 hc5) wcX7_tally wlX7_86 eR0 rfl rfl rfl ⟨rfl, rfl, Nat.le_of_ble_eq_true rfl, Nat.le_of_ble_eq_true rfl⟩ ⟨Nat.zero_le _, Nat.zero_le _⟩ (Nat.le_of_ble_eq_true rfl) dX7_win_17 rfl rfl ?_
  refine J_aload_n (i := 0) (q := 0) (pc1 := 21) dX7_win_20 rfl rfl rfl ?_
  refine J_iload_n (i := 1) (q := 1) (pc1 := 22) dX7_win_21 rfl rfl rfl ?_
  refine J_iconst (v := 2) (pc1 := 23) dX7_win_22 (by decide) rfl ?_
  obtain ⟨r8, hc7, h⟩ := gBp_s h
  refine J_callV (As := [.int a1, .int 2]) (ad := ad) (f := 0) (i := 0) (st := []) (st1 := [.int r8]) (pc1 := 26) (kX7_of l D tc sa ad hI a1 2 μ6 r8 hc7) wcX7_of wlX7_38 eR0 rfl rfl rfl ⟨rfl, rfl, Nat.le_of_ble_eq_true rfl, Nat.le_of_ble_eq_true rfl⟩ ⟨Nat.zero_le _, Nat.zero_le _⟩ (Nat.le_of_ble_eq_true rfl) dX7_win_23 rfl rfl ?_
  refine J_bipush (v := 100) (pc1 := 28) dX7_win_26 (by decide) rfl ?_
  obtain ⟨j10, ej10, h⟩ := gJon_s h
  have kj10 : ∀ (μ9 : gM), j10 μ9 = some μ' → JR p l e ({ frames := 7, cells := 0, slots := 0, locals := 160 } : Room) s m args below meth c cX7_win 3 RX7 D tc sa ad sz (none) μ' μ9 46 [(0, .ref (ad 0 0)), (1, .int a1)] [] := by
    intro μ9 h
    rw [ej10] at h
    try dsimp only at h
    refine J_iconst (v := 0) (pc1 := 47) dX7_win_46 (by decide) rfl ?_
    refine J_istore_n (i := 2) (lv1 := [(2, .int 0), (0, .ref (ad 0 0)), (1, .int a1)]) (pc1 := 48) dX7_win_47 rfl (by decide) rfl rfl ?_
    obtain ⟨j12, ej12, h⟩ := gJon_s h
    have kj12 : ∀ (μ11 : gM), j12 μ11 = some μ' → JR p l e ({ frames := 7, cells := 0, slots := 0, locals := 160 } : Room) s m args below meth c cX7_win 3 RX7 D tc sa ad sz (none) μ' μ11 95 [(0, .ref (ad 0 0)), (1, .int a1)] [] := by
      intro μ11 h
      rw [ej12] at h
      try dsimp only at h
      refine J_aload_n (i := 0) (q := 0) (pc1 := 96) dX7_win_95 rfl rfl rfl ?_
      refine J_iload_n (i := 1) (q := 1) (pc1 := 97) dX7_win_96 rfl rfl rfl ?_
      refine J_bipush (v := 12) (pc1 := 99) dX7_win_97 (by decide) rfl ?_
      obtain ⟨r14, hc13, h⟩ := gBp_s h
      refine J_callV (As := [.int a1, .int 12]) (ad := ad) (f := 0) (i := 0) (st := []) (st1 := [.int r14]) (pc1 := 102) (kX7_of l D tc sa ad hI a1 12 μ11 r14 hc13) wcX7_of wlX7_38 eR0 rfl rfl rfl ⟨rfl, rfl, Nat.le_of_ble_eq_true rfl, Nat.le_of_ble_eq_true rfl⟩ ⟨Nat.zero_le _, Nat.zero_le _⟩ (Nat.le_of_ble_eq_true rfl) dX7_win_99 rfl rfl ?_
      refine J_bipush (v := 24) (pc1 := 104) dX7_win_102 (by decide) rfl ?_
      obtain ⟨j16, ej16, h⟩ := gJon_s h
      have kj16 : ∀ (μ15 : gM), j16 μ15 = some μ' → JR p l e ({ frames := 7, cells := 0, slots := 0, locals := 160 } : Room) s m args below meth c cX7_win 3 RX7 D tc sa ad sz (none) μ' μ15 114 [(0, .ref (ad 0 0)), (1, .int a1)] [] := by
        intro μ15 h
        rw [ej16] at h
        try dsimp only at h
        refine J_aload_n (i := 0) (q := 0) (pc1 := 115) dX7_win_114 rfl rfl rfl ?_
        refine J_iload_n (i := 1) (q := 1) (pc1 := 116) dX7_win_115 rfl rfl rfl ?_
        obtain ⟨μ18, hc17, h⟩ := gBp_s h
        refine J_callV (As := [.int a1]) (ad := ad) (f := 0) (i := 0) (st := []) (st1 := []) (pc1 := 119) (kX7_sendToAll l D tc sa ad hI a1 μ15 μ18 hc17) wcX7_sendToAll wlX7_130 eR0 rfl rfl rfl ⟨rfl, rfl, Nat.le_of_ble_eq_true rfl, Nat.le_of_ble_eq_true rfl⟩ ⟨Nat.zero_le _, Nat.zero_le _⟩ (Nat.le_of_ble_eq_true rfl) dX7_win_116 rfl rfl ?_
        cases h
        exact J_vret hr hlk dX7_win_119
      clear ej16
      refine J_icmp_ge (tgt := 114) (pc1 := 107) dX7_win_104 (by decide) (fun q19 => ?_) rfl (fun q19 => ?_)
      · rw [if_pos q19] at h
        exact kj16 _ h
      · rw [if_neg q19] at h
        refine J_aload_n (i := 0) (q := 0) (pc1 := 108) dX7_win_107 rfl rfl rfl ?_
        refine J_iload_n (i := 1) (q := 1) (pc1 := 109) dX7_win_108 rfl rfl rfl ?_
        refine J_iconst (v := 3) (pc1 := 110) dX7_win_109 (by decide) rfl ?_
        refine J_iconst (v := 0) (pc1 := 111) dX7_win_110 (by decide) rfl ?_
        obtain ⟨μ21, hc20, h⟩ := gBp_s h
        refine J_callV (As := [.int a1, .int 3, .int 0]) (ad := ad) (f := 0) (i := 0) (st := []) (st1 := []) (pc1 := 114) (kX7_append l D tc sa ad hI a1 3 0 μ11 μ21 hc20) wcX7_append wlX7_127 eR0 rfl rfl rfl ⟨rfl, rfl, Nat.le_of_ble_eq_true rfl, Nat.le_of_ble_eq_true rfl⟩ ⟨Nat.zero_le _, Nat.zero_le _⟩ (Nat.le_of_ble_eq_true rfl) dX7_win_111 rfl rfl ?_
        exact kj16 _ h
    clear ej12
    refine J_sub [1, 2, 0] (lv1 := [(0, .ref (ad 0 0)), (1, .int a1), (2, .int 0)]) rfl ?_
    refine gFx2_s (P := fun x22 μ23 => JR p l e ({ frames := 7, cells := 0, slots := 0, locals := 160 } : Room) s m args below meth c cX7_win 3 RX7 D tc sa ad sz (none) μ' μ23 48 [(0, .ref (ad 0 0)), (1, .int a1), (2, .int x22)] []) (fun rec24 ihrec24 x22 μ23 h => ?_) _ _ _ h
    try dsimp only at h
    refine J_iload_n (i := 2) (q := 2) (pc1 := 49) dX7_win_48 rfl rfl rfl ?_
    refine J_iconst (v := 5) (pc1 := 50) dX7_win_49 (by decide) rfl ?_
    refine J_icmp_ge (tgt := 95) (pc1 := 53) dX7_win_50 (by decide) (fun q25 => ?_) rfl (fun q25 => ?_)
    · rw [if_pos q25] at h
      refine J_sub [0, 1] (lv1 := [(0, .ref (ad 0 0)), (1, .int a1)]) rfl ?_
      exact kj12 _ h
    · rw [if_neg q25] at h
      refine J_aload_n (i := 0) (q := 0) (pc1 := 54) dX7_win_53 rfl rfl rfl ?_
      refine J_iload_n (i := 1) (q := 1) (pc1 := 55) dX7_win_54 rfl rfl rfl ?_
      refine J_bipush (v := 13) (pc1 := 57) dX7_win_55 (by decide) rfl ?_
      refine J_iload_n (i := 2) (q := 2) (pc1 := 58) dX7_win_57 rfl rfl rfl ?_
      refine J_iadd (pc1 := 59) dX7_win_58 rfl ?_
      refine J_aload_n (i := 0) (q := 0) (pc1 := 60) dX7_win_59 rfl rfl rfl ?_
      refine J_iload_n (i := 1) (q := 1) (pc1 := 61) dX7_win_60 rfl rfl rfl ?_
      obtain ⟨r27, hc26, h⟩ := gBp_s h
      refine J_callV (As := [.int a1]) (ad := ad) (f := 0) (i := 0) (st := [.int (13 + x22), .int a1, .ref (ad 0 0)]) (st1 := [.int r27, .int (13 + x22), .int a1, .ref (ad 0 0)]) (pc1 := 64) (kX7_last l D tc sa ad hI a1 μ23 r27 hc26) wcX7_last wlX7_67 eR0 rfl rfl rfl ⟨rfl, rfl, Nat.le_of_ble_eq_true rfl, Nat.le_of_ble_eq_true rfl⟩ ⟨Nat.zero_le _, Nat.zero_le _⟩ (Nat.le_of_ble_eq_true rfl) dX7_win_61 rfl rfl ?_
      refine J_iconst (v := 1) (pc1 := 65) dX7_win_64 (by decide) rfl ?_
      refine J_iadd (pc1 := 66) dX7_win_65 rfl ?_
      obtain ⟨μ29, hc28, h⟩ := gBp_s h
      refine J_callV (As := [.int a1, .int (13 + x22), .int (r27 + 1)]) (ad := ad) (f := 0) (i := 0) (st := []) (st1 := []) (pc1 := 69) (kX7_set l D tc sa ad hI a1 (13 + x22) (r27 + 1) μ23 μ29 hc28) wcX7_set wlX7_43 eR0 rfl rfl rfl ⟨rfl, rfl, Nat.le_of_ble_eq_true rfl, Nat.le_of_ble_eq_true rfl⟩ ⟨Nat.zero_le _, Nat.zero_le _⟩ (Nat.le_of_ble_eq_true rfl) dX7_win_66 rfl rfl ?_
      refine J_aload_n (i := 0) (q := 0) (pc1 := 70) dX7_win_69 rfl rfl rfl ?_
      refine J_iload_n (i := 1) (q := 1) (pc1 := 71) dX7_win_70 rfl rfl rfl ?_
      refine J_bipush (v := 18) (pc1 := 73) dX7_win_71 (by decide) rfl ?_
      refine J_iload_n (i := 2) (q := 2) (pc1 := 74) dX7_win_73 rfl rfl rfl ?_
      refine J_iadd (pc1 := 75) dX7_win_74 rfl ?_
      refine J_iconst (v := 0) (pc1 := 76) dX7_win_75 (by decide) rfl ?_
      obtain ⟨μ31, hc30, h⟩ := gBp_s h
      refine J_callV (As := [.int a1, .int (18 + x22), .int 0]) (ad := ad) (f := 0) (i := 0) (st := []) (st1 := []) (pc1 := 79) (kX7_set l D tc sa ad hI a1 (18 + x22) 0 μ29 μ31 hc30) wcX7_set wlX7_43 eR0 rfl rfl rfl ⟨rfl, rfl, Nat.le_of_ble_eq_true rfl, Nat.le_of_ble_eq_true rfl⟩ ⟨Nat.zero_le _, Nat.zero_le _⟩ (Nat.le_of_ble_eq_true rfl) dX7_win_76 rfl rfl ?_
      refine J_aload_n (i := 0) (q := 0) (pc1 := 80) dX7_win_79 rfl rfl rfl ?_
      refine J_iload_n (i := 1) (q := 1) (pc1 := 81) dX7_win_80 rfl rfl rfl ?_
      refine J_bipush (v := 23) (pc1 := 83) dX7_win_81 (by decide) rfl ?_
      refine J_iload_n (i := 2) (q := 2) (pc1 := 84) dX7_win_83 rfl rfl rfl ?_
      refine J_iadd (pc1 := 85) dX7_win_84 rfl ?_
      refine J_iconst (v := (-1)) (pc1 := 86) dX7_win_85 (by decide) rfl ?_
      obtain ⟨μ33, hc32, h⟩ := gBp_s h
      refine J_callV (As := [.int a1, .int (23 + x22), .int (-1)]) (ad := ad) (f := 0) (i := 0) (st := []) (st1 := []) (pc1 := 89) (kX7_set l D tc sa ad hI a1 (23 + x22) (-1) μ31 μ33 hc32) wcX7_set wlX7_43 eR0 rfl rfl rfl ⟨rfl, rfl, Nat.le_of_ble_eq_true rfl, Nat.le_of_ble_eq_true rfl⟩ ⟨Nat.zero_le _, Nat.zero_le _⟩ (Nat.le_of_ble_eq_true rfl) dX7_win_86 rfl rfl ?_
      refine J_iinc (i := 2) (q := 2) (v := x22 + 1) (lv1 := [(2, .int (x22 + 1)), (0, .ref (ad 0 0)), (1, .int a1)]) (pc1 := 92) dX7_win_89 rfl rfl (by decide) rfl rfl ?_
      refine J_goto (tgt := 48) dX7_win_92 (by decide) ?_
      refine J_sub [1, 2, 0] (lv1 := [(0, .ref (ad 0 0)), (1, .int a1), (2, .int (x22 + 1))]) rfl ?_
      exact ihrec24 _ _ h
  clear ej10
  refine J_icmp_ge (tgt := 46) (pc1 := 31) dX7_win_28 (by decide) (fun q34 => ?_) rfl (fun q34 => ?_)
  · rw [if_pos q34] at h
    exact kj10 _ h
  · rw [if_neg q34] at h
    refine J_aload_n (i := 0) (q := 0) (pc1 := 32) dX7_win_31 rfl rfl rfl ?_
    refine J_getR (T := TX7) (f' := 1) (i' := 0) (pc1 := 35) eR0 rfl rfl inX7 1 (by decide) rfl rfl flX7_9 rfl dX7_win_32 rfl ?_
    refine J_bipush (v := 16) (pc1 := 37) dX7_win_35 (by decide) rfl ?_
    refine J_aload_n (i := 0) (q := 0) (pc1 := 38) dX7_win_37 rfl rfl rfl ?_
    refine J_iload_n (i := 1) (q := 1) (pc1 := 39) dX7_win_38 rfl rfl rfl ?_
    refine J_iconst (v := 2) (pc1 := 40) dX7_win_39 (by decide) rfl ?_
    obtain ⟨r36, hc35, h⟩ := gBp_s h
    refine J_callV (As := [.int a1, .int 2]) (ad := ad) (f := 0) (i := 0) (st := [.int 16, .ref (ad 1 0)]) (st1 := [.int r36, .int 16, .ref (ad 1 0)]) (pc1 := 43) (kX7_of l D tc sa ad hI a1 2 μ6 r36 hc35) wcX7_of wlX7_38 eR0 rfl rfl rfl ⟨rfl, rfl, Nat.le_of_ble_eq_true rfl, Nat.le_of_ble_eq_true rfl⟩ ⟨Nat.zero_le _, Nat.zero_le _⟩ (Nat.le_of_ble_eq_true rfl) dX7_win_40 rfl rfl ?_
    refine J_iadd (pc1 := 44) dX7_win_43 rfl ?_
    refine J_iload_n (i := 1) (q := 1) (pc1 := 45) dX7_win_44 rfl rfl rfl ?_
    obtain ⟨h37, h⟩ := gChk_s h
    refine J_iast (ix := ((16 + r36).toNatClampNeg)) (pc1 := 46) rfl eR1 rfl h37 dX7_win_45 rfl ?_
    obtain ⟨μ38, e39, h⟩ := gLet_s h
    rw [← e39]
    clear e39
    exact kj10 _ h
def mX7_stand (a1 : Int32) (μ : gM) : Option gM :=
  gBp (mX7_of a1 2 μ) fun r2 =>
  gBp (mX7_set a1 2 (r2 + 1) μ) fun μ4 =>
  gBp (mX7_set a1 1 1 μ4) fun μ6 =>
  gBp (mX7_set a1 3 a1 μ6) fun μ8 =>
  gBp (mX7_set a1 6 (1 <<< (a1 &&& 31)) μ8) fun μ10 =>
  gBp (mX7_resetTimer a1 μ10) fun μ12 =>
  gBp (mX7_tally 3 1 μ12) fun μ14 =>
  gBp (mX7_members a1 μ14) fun r16 =>
  gJon (fun (μ17 : gM) =>
      gBp (mX7_isQuorum a1 (1 <<< (a1 &&& 31)) μ17) fun r20 =>
      if r20 = 0 then
        some μ17
      else
        gBp (mX7_win a1 μ17) fun μ23 =>
        some μ23) fun j18 =>
  gFx2 (fun rec26 (x24 : Int32) (μ25 : gM) =>
      if 5 ≤ x24 then
        j18 μ25
      else
        if x24 = a1 then
          rec26 (x24 + 1) μ25
        else
          gBp (mX7_has r16 x24 μ25) fun r30 =>
          if r30 = 0 then
            rec26 (x24 + 1) μ25
          else
            gBp (mX7_last a1 μ25) fun r33 =>
            gBp (mX7_last a1 μ25) fun r35 =>
            gBp (mX7_termAt a1 r35 μ25) fun r37 =>
            gBd (mX7_send 0 a1 x24 r33 r37 μ25) fun r39 μ40 =>
            rec26 (x24 + 1) μ40) 1000000 0 μ14
set_option maxHeartbeats 4000000 in
set_option maxRecDepth 100000 in
theorem kX7_stand (l : Launch) (D : va_G) (tc : Nat → ClassId) (sa : Nat → Nat) (ad : Nat → Nat → Nat) (hI : gI gE_R ad) (a1 : Int32) (μ : gM) (μ' : gM) (h : mX7_stand a1 μ = some μ') : gMet l yX7_stand cX7_stand 4 (none) ({ frames := 8, cells := 0, slots := 0, locals := 182 } : Room) D gE_R gkd_R tc ad grh_R sa [.ref (ad 0 0), .int a1] μ (none) μ' := by
  refine gMet_of hI ⟨by decide +kernel, Nat.le_of_ble_eq_true rfl⟩ (fun p e s m args below meth c sz hr hlk => ?_)
  unfold mX7_stand at h
  show JR p l e ({ frames := 8, cells := 0, slots := 0, locals := 182 } : Room) s m args below meth c cX7_stand 4 RX7 D tc sa ad sz (none) μ' μ 0 [(0, .ref (ad 0 0)), (1, .int a1)] []
  refine J_aload_n (i := 0) (q := 0) (pc1 := 1) dX7_stand_0 rfl rfl rfl ?_
  refine J_iload_n (i := 1) (q := 1) (pc1 := 2) dX7_stand_1 rfl rfl rfl ?_
  refine J_iconst (v := 2) (pc1 := 3) dX7_stand_2 (by decide) rfl ?_
  refine J_aload_n (i := 0) (q := 0) (pc1 := 4) dX7_stand_3 rfl rfl rfl ?_
  refine J_iload_n (i := 1) (q := 1) (pc1 := 5) dX7_stand_4 rfl rfl rfl ?_
  refine J_iconst (v := 2) (pc1 := 6) dX7_stand_5 (by decide) rfl ?_
  obtain ⟨r2, hc1, h⟩ := gBp_s h
  refine J_callV (As := [.int a1, .int 2]) (ad := ad) (f := 0) (i := 0) (st := [.int 2, .int a1, .ref (ad 0 0)]) (st1 := [.int r2, .int 2, .int a1, .ref (ad 0 0)]) (pc1 := 9) (kX7_of l D tc sa ad hI a1 2 μ r2 hc1) wcX7_of wlX7_38 eR0 rfl rfl rfl ⟨rfl, rfl, Nat.le_of_ble_eq_true rfl, Nat.le_of_ble_eq_true rfl⟩ ⟨Nat.zero_le _, Nat.zero_le _⟩ (Nat.le_of_ble_eq_true rfl) dX7_stand_6 rfl rfl ?_
  refine J_iconst (v := 1) (pc1 := 10) dX7_stand_9 (by decide) rfl ?_
  refine J_iadd (pc1 := 11) dX7_stand_10 rfl ?_
  obtain ⟨μ4, hc3, h⟩ := gBp_s h
  refine J_callV (As := [.int a1, .int 2, .int (r2 + 1)]) (ad := ad) (f := 0) (i := 0) (st := []) (st1 := []) (pc1 := 14) (kX7_set l D tc sa ad hI a1 2 (r2 + 1) μ μ4 hc3) wcX7_set wlX7_43 eR0 rfl rfl rfl ⟨rfl, rfl, Nat.le_of_ble_eq_true rfl, Nat.le_of_ble_eq_true rfl⟩ ⟨Nat.zero_le _, Nat.zero_le _⟩ (Nat.le_of_ble_eq_true rfl) dX7_stand_11 rfl rfl ?_
  refine J_aload_n (i := 0) (q := 0) (pc1 := 15) dX7_stand_14 rfl rfl rfl ?_
  refine J_iload_n (i := 1) (q := 1) (pc1 := 16) dX7_stand_15 rfl rfl rfl ?_
  refine J_iconst (v := 1) (pc1 := 17) dX7_stand_16 (by decide) rfl ?_
  refine J_iconst (v := 1) (pc1 := 18) dX7_stand_17 (by decide) rfl ?_
  obtain ⟨μ6, hc5, h⟩ := gBp_s h
  refine J_callV (As := [.int a1, .int 1, .int 1]) (ad := ad) (f := 0) (i := 0) (st := []) (st1 := []) (pc1 := 21) (kX7_set l D tc sa ad hI a1 1 1 μ4 μ6 hc5) wcX7_set wlX7_43 eR0 rfl rfl rfl ⟨rfl, rfl, Nat.le_of_ble_eq_true rfl, Nat.le_of_ble_eq_true rfl⟩ ⟨Nat.zero_le _, Nat.zero_le _⟩ (Nat.le_of_ble_eq_true rfl) dX7_stand_18 rfl rfl ?_
  refine J_aload_n (i := 0) (q := 0) (pc1 := 22) dX7_stand_21 rfl rfl rfl ?_
  refine J_iload_n (i := 1) (q := 1) (pc1 := 23) dX7_stand_22 rfl rfl rfl ?_
  refine J_iconst (v := 3) (pc1 := 24) dX7_stand_23 (by decide) rfl ?_
  refine J_iload_n (i := 1) (q := 1) (pc1 := 25) dX7_stand_24 rfl rfl rfl ?_
  obtain ⟨μ8, hc7, h⟩ := gBp_s h
  refine J_callV (As := [.int a1, .int 3, .int a1]) (ad := ad) (f := 0) (i := 0) (st := []) (st1 := []) (pc1 := 28) (kX7_set l D tc sa ad hI a1 3 a1 μ6 μ8 hc7) wcX7_set wlX7_43 eR0 rfl rfl rfl ⟨rfl, rfl, Nat.le_of_ble_eq_true rfl, Nat.le_of_ble_eq_true rfl⟩ ⟨Nat.zero_le _, Nat.zero_le _⟩ (Nat.le_of_ble_eq_true rfl) dX7_stand_25 rfl rfl ?_
  refine J_aload_n (i := 0) (q := 0) (pc1 := 29) dX7_stand_28 rfl rfl rfl ?_
  refine J_iload_n (i := 1) (q := 1) (pc1 := 30) dX7_stand_29 rfl rfl rfl ?_
  refine J_bipush (v := 6) (pc1 := 32) dX7_stand_30 (by decide) rfl ?_
  refine J_iconst (v := 1) (pc1 := 33) dX7_stand_32 (by decide) rfl ?_
  refine J_iload_n (i := 1) (q := 1) (pc1 := 34) dX7_stand_33 rfl rfl rfl ?_
  refine J_ishl (pc1 := 35) dX7_stand_34 rfl ?_
  obtain ⟨μ10, hc9, h⟩ := gBp_s h
  refine J_callV (As := [.int a1, .int 6, .int (1 <<< (a1 &&& 31))]) (ad := ad) (f := 0) (i := 0) (st := []) (st1 := []) (pc1 := 38) (kX7_set l D tc sa ad hI a1 6 (1 <<< (a1 &&& 31)) μ8 μ10 hc9) wcX7_set wlX7_43 eR0 rfl rfl rfl ⟨rfl, rfl, Nat.le_of_ble_eq_true rfl, Nat.le_of_ble_eq_true rfl⟩ ⟨Nat.zero_le _, Nat.zero_le _⟩ (Nat.le_of_ble_eq_true rfl) dX7_stand_35 rfl rfl ?_
  refine J_aload_n (i := 0) (q := 0) (pc1 := 39) dX7_stand_38 rfl rfl rfl ?_
  refine J_iload_n (i := 1) (q := 1) (pc1 := 40) dX7_stand_39 rfl rfl rfl ?_
  obtain ⟨μ12, hc11, h⟩ := gBp_s h
  refine J_callV (As := [.int a1]) (ad := ad) (f := 0) (i := 0) (st := []) (st1 := []) (pc1 := 43) (kX7_resetTimer l D tc sa ad hI a1 μ10 μ12 hc11) wcX7_resetTimer wlX7_47 eR0 rfl rfl rfl ⟨rfl, rfl, Nat.le_of_ble_eq_true rfl, Nat.le_of_ble_eq_true rfl⟩ ⟨Nat.zero_le _, Nat.zero_le _⟩ (Nat.le_of_ble_eq_true rfl) dX7_stand_40 rfl rfl ?_
  refine J_aload_n (i := 0) (q := 0) (pc1 := 44) dX7_stand_43 rfl rfl rfl ?_
  refine J_iconst (v := 3) (pc1 := 45) dX7_stand_44 (by decide) rfl ?_
  refine J_iconst (v := 1) (pc1 := 46) dX7_stand_45 (by decide) rfl ?_
  obtain ⟨μ14, hc13, h⟩ := gBp_s h
  refine J_callV (As := [.int 3, .int 1]) (ad := ad) (f := 0) (i := 0) (st := []) (st1 := []) (pc1 := 49) (kX7_tally l D tc sa ad hI 3 1 μ12 μ14 hc13) wcX7_tally wlX7_86 eR0 rfl rfl rfl ⟨rfl, rfl, Nat.le_of_ble_eq_true rfl, Nat.le_of_ble_eq_true rfl⟩ ⟨Nat.zero_le _, Nat.zero_le _⟩ (Nat.le_of_ble_eq_true rfl) dX7_stand_46 rfl rfl ?_
  refine J_aload_n (i := 0) (q := 0) (pc1 := 50) dX7_stand_49 rfl rfl rfl ?_
  refine J_iload_n (i := 1) (q := 1) (pc1 := 51) dX7_stand_50 rfl rfl rfl ?_
  obtain ⟨r16, hc15, h⟩ := gBp_s h
  refine J_callV (As := [.int a1]) (ad := ad) (f := 0) (i := 0) (st := []) (st1 := [.int r16]) (pc1 := 54) (kX7_members l D tc sa ad hI a1 μ14 r16 hc15) wcX7_members wlX7_108 eR0 rfl rfl rfl ⟨rfl, rfl, Nat.le_of_ble_eq_true rfl, Nat.le_of_ble_eq_true rfl⟩ ⟨Nat.zero_le _, Nat.zero_le _⟩ (Nat.le_of_ble_eq_true rfl) dX7_stand_51 rfl rfl ?_
  refine J_istore_n (i := 2) (lv1 := [(2, .int r16), (0, .ref (ad 0 0)), (1, .int a1)]) (pc1 := 55) dX7_stand_54 rfl (by decide) rfl rfl ?_
  refine J_iconst (v := 0) (pc1 := 56) dX7_stand_55 (by decide) rfl ?_
  refine J_istore_n (i := 3) (lv1 := [(3, .int 0), (2, .int r16), (0, .ref (ad 0 0)), (1, .int a1)]) (pc1 := 57) dX7_stand_56 rfl (by decide) rfl rfl ?_
  obtain ⟨j18, ej18, h⟩ := gJon_s h
  have kj18 : ∀ (μ17 : gM), j18 μ17 = some μ' → JR p l e ({ frames := 8, cells := 0, slots := 0, locals := 182 } : Room) s m args below meth c cX7_stand 4 RX7 D tc sa ad sz (none) μ' μ17 104 [(0, .ref (ad 0 0)), (1, .int a1)] [] := by
    intro μ17 h
    rw [ej18] at h
    try dsimp only at h
    refine J_aload_n (i := 0) (q := 0) (pc1 := 105) dX7_stand_104 rfl rfl rfl ?_
    refine J_iload_n (i := 1) (q := 1) (pc1 := 106) dX7_stand_105 rfl rfl rfl ?_
    refine J_iconst (v := 1) (pc1 := 107) dX7_stand_106 (by decide) rfl ?_
    refine J_iload_n (i := 1) (q := 1) (pc1 := 108) dX7_stand_107 rfl rfl rfl ?_
    refine J_ishl (pc1 := 109) dX7_stand_108 rfl ?_
    obtain ⟨r20, hc19, h⟩ := gBp_s h
    refine J_callV (As := [.int a1, .int (1 <<< (a1 &&& 31))]) (ad := ad) (f := 0) (i := 0) (st := []) (st1 := [.int r20]) (pc1 := 112) (kX7_isQuorum l D tc sa ad hI a1 (1 <<< (a1 &&& 31)) μ17 r20 hc19) wcX7_isQuorum wlX7_117 eR0 rfl rfl rfl ⟨rfl, rfl, Nat.le_of_ble_eq_true rfl, Nat.le_of_ble_eq_true rfl⟩ ⟨Nat.zero_le _, Nat.zero_le _⟩ (Nat.le_of_ble_eq_true rfl) dX7_stand_109 rfl rfl ?_
    refine J_if_eq (tgt := 120) (pc1 := 115) dX7_stand_112 (by decide) (fun q21 => ?_) rfl (fun q21 => ?_)
    · rw [if_pos q21] at h
      cases h
      exact J_vret hr hlk dX7_stand_120
    · rw [if_neg q21] at h
      refine J_aload_n (i := 0) (q := 0) (pc1 := 116) dX7_stand_115 rfl rfl rfl ?_
      refine J_iload_n (i := 1) (q := 1) (pc1 := 117) dX7_stand_116 rfl rfl rfl ?_
      obtain ⟨μ23, hc22, h⟩ := gBp_s h
      refine J_callV (As := [.int a1]) (ad := ad) (f := 0) (i := 0) (st := []) (st1 := []) (pc1 := 120) (kX7_win l D tc sa ad hI a1 μ17 μ23 hc22) wcX7_win wlX7_133 eR0 rfl rfl rfl ⟨rfl, rfl, Nat.le_of_ble_eq_true rfl, Nat.le_of_ble_eq_true rfl⟩ ⟨Nat.zero_le _, Nat.zero_le _⟩ (Nat.le_of_ble_eq_true rfl) dX7_stand_117 rfl rfl ?_
      cases h
      exact J_vret hr hlk dX7_stand_120
  clear ej18
  refine J_sub [2, 3, 1, 0] (lv1 := [(0, .ref (ad 0 0)), (1, .int a1), (2, .int r16), (3, .int 0)]) rfl ?_
  refine gFx2_s (P := fun x24 μ25 => JR p l e ({ frames := 8, cells := 0, slots := 0, locals := 182 } : Room) s m args below meth c cX7_stand 4 RX7 D tc sa ad sz (none) μ' μ25 57 [(0, .ref (ad 0 0)), (1, .int a1), (2, .int r16), (3, .int x24)] []) (fun rec26 ihrec26 x24 μ25 h => ?_) _ _ _ h
  try dsimp only at h
  refine J_iload_n (i := 3) (q := 3) (pc1 := 58) dX7_stand_57 rfl rfl rfl ?_
  refine J_iconst (v := 5) (pc1 := 59) dX7_stand_58 (by decide) rfl ?_
  refine J_icmp_ge (tgt := 104) (pc1 := 62) dX7_stand_59 (by decide) (fun q27 => ?_) rfl (fun q27 => ?_)
  · rw [if_pos q27] at h
    refine J_sub [0, 1] (lv1 := [(0, .ref (ad 0 0)), (1, .int a1)]) rfl ?_
    exact kj18 _ h
  · rw [if_neg q27] at h
    refine J_iload_n (i := 3) (q := 3) (pc1 := 63) dX7_stand_62 rfl rfl rfl ?_
    refine J_iload_n (i := 1) (q := 1) (pc1 := 64) dX7_stand_63 rfl rfl rfl ?_
    refine J_icmp_eq (tgt := 98) (pc1 := 67) dX7_stand_64 (by decide) (fun q28 => ?_) rfl (fun q28 => ?_)
    · rw [if_pos q28] at h
      refine J_iinc (i := 3) (q := 3) (v := x24 + 1) (lv1 := [(3, .int (x24 + 1)), (0, .ref (ad 0 0)), (1, .int a1), (2, .int r16)]) (pc1 := 101) dX7_stand_98 rfl rfl (by decide) rfl rfl ?_
      refine J_goto (tgt := 57) dX7_stand_101 (by decide) ?_
      refine J_sub [1, 2, 3, 0] (lv1 := [(0, .ref (ad 0 0)), (1, .int a1), (2, .int r16), (3, .int (x24 + 1))]) rfl ?_
      exact ihrec26 _ _ h
    · rw [if_neg q28] at h
      refine J_iload_n (i := 2) (q := 2) (pc1 := 68) dX7_stand_67 rfl rfl rfl ?_
      refine J_iload_n (i := 3) (q := 3) (pc1 := 69) dX7_stand_68 rfl rfl rfl ?_
      obtain ⟨r30, hc29, h⟩ := gBp_s h
      refine J_callS (As := [.int r16, .int x24]) (st := []) (st1 := [.int r30]) (pc1 := 72) (kX7_has l D tc sa ad hI r16 x24 μ25 r30 hc29) wcX7_has wlX7_89 rfl ⟨rfl, rfl, Nat.le_of_ble_eq_true rfl, Nat.le_of_ble_eq_true rfl⟩ ⟨Nat.zero_le _, Nat.zero_le _⟩ (Nat.le_of_ble_eq_true rfl) dX7_stand_69 rfl rfl ?_
      refine J_if_eq (tgt := 98) (pc1 := 75) dX7_stand_72 (by decide) (fun q31 => ?_) rfl (fun q31 => ?_)
      · rw [if_pos q31] at h
        refine J_iinc (i := 3) (q := 3) (v := x24 + 1) (lv1 := [(3, .int (x24 + 1)), (0, .ref (ad 0 0)), (1, .int a1), (2, .int r16)]) (pc1 := 101) dX7_stand_98 rfl rfl (by decide) rfl rfl ?_
        refine J_goto (tgt := 57) dX7_stand_101 (by decide) ?_
        refine J_sub [1, 2, 3, 0] (lv1 := [(0, .ref (ad 0 0)), (1, .int a1), (2, .int r16), (3, .int (x24 + 1))]) rfl ?_
        exact ihrec26 _ _ h
      · rw [if_neg q31] at h
        refine J_aload_n (i := 0) (q := 0) (pc1 := 76) dX7_stand_75 rfl rfl rfl ?_
        refine J_iconst (v := 0) (pc1 := 77) dX7_stand_76 (by decide) rfl ?_
        refine J_iload_n (i := 1) (q := 1) (pc1 := 78) dX7_stand_77 rfl rfl rfl ?_
        refine J_iload_n (i := 3) (q := 3) (pc1 := 79) dX7_stand_78 rfl rfl rfl ?_
        refine J_aload_n (i := 0) (q := 0) (pc1 := 80) dX7_stand_79 rfl rfl rfl ?_
        refine J_iload_n (i := 1) (q := 1) (pc1 := 81) dX7_stand_80 rfl rfl rfl ?_
        obtain ⟨r33, hc32, h⟩ := gBp_s h
        refine J_callV (As := [.int a1]) (ad := ad) (f := 0) (i := 0) (st := [.int x24, .int a1, .int 0, .ref (ad 0 0)]) (st1 := [.int r33, .int x24, .int a1, .int 0, .ref (ad 0 0)]) (pc1 := 84) (kX7_last l D tc sa ad hI a1 μ25 r33 hc32) wcX7_last wlX7_67 eR0 rfl rfl rfl ⟨rfl, rfl, Nat.le_of_ble_eq_true rfl, Nat.le_of_ble_eq_true rfl⟩ ⟨Nat.zero_le _, Nat.zero_le _⟩ (Nat.le_of_ble_eq_true rfl) dX7_stand_81 rfl rfl ?_
        refine J_aload_n (i := 0) (q := 0) (pc1 := 85) dX7_stand_84 rfl rfl rfl ?_
        refine J_iload_n (i := 1) (q := 1) (pc1 := 86) dX7_stand_85 rfl rfl rfl ?_
        refine J_aload_n (i := 0) (q := 0) (pc1 := 87) dX7_stand_86 rfl rfl rfl ?_
        refine J_iload_n (i := 1) (q := 1) (pc1 := 88) dX7_stand_87 rfl rfl rfl ?_
        obtain ⟨r35, hc34, h⟩ := gBp_s h
        refine J_callV (As := [.int a1]) (ad := ad) (f := 0) (i := 0) (st := [.int a1, .ref (ad 0 0), .int r33, .int x24, .int a1, .int 0, .ref (ad 0 0)]) (st1 := [.int r35, .int a1, .ref (ad 0 0), .int r33, .int x24, .int a1, .int 0, .ref (ad 0 0)]) (pc1 := 91) (kX7_last l D tc sa ad hI a1 μ25 r35 hc34) wcX7_last wlX7_67 eR0 rfl rfl rfl ⟨rfl, rfl, Nat.le_of_ble_eq_true rfl, Nat.le_of_ble_eq_true rfl⟩ ⟨Nat.zero_le _, Nat.zero_le _⟩ (Nat.le_of_ble_eq_true rfl) dX7_stand_88 rfl rfl ?_
        obtain ⟨r37, hc36, h⟩ := gBp_s h
        refine J_callV (As := [.int a1, .int r35]) (ad := ad) (f := 0) (i := 0) (st := [.int r33, .int x24, .int a1, .int 0, .ref (ad 0 0)]) (st1 := [.int r37, .int r33, .int x24, .int a1, .int 0, .ref (ad 0 0)]) (pc1 := 94) (kX7_termAt l D tc sa ad hI a1 r35 μ25 r37 hc36) wcX7_termAt wlX7_99 eR0 rfl rfl rfl ⟨rfl, rfl, Nat.le_of_ble_eq_true rfl, Nat.le_of_ble_eq_true rfl⟩ ⟨Nat.zero_le _, Nat.zero_le _⟩ (Nat.le_of_ble_eq_true rfl) dX7_stand_91 rfl rfl ?_
        obtain ⟨r39, μ40, hc38, h⟩ := gBd_s h
        refine J_callV (As := [.int 0, .int a1, .int x24, .int r33, .int r37]) (ad := ad) (f := 0) (i := 0) (st := []) (st1 := [.int r39]) (pc1 := 97) (kX7_send l D tc sa ad hI 0 a1 x24 r33 r37 μ25 r39 μ40 hc38) wcX7_send wlX7_95 eR0 rfl rfl rfl ⟨rfl, rfl, Nat.le_of_ble_eq_true rfl, Nat.le_of_ble_eq_true rfl⟩ ⟨Nat.zero_le _, Nat.zero_le _⟩ (Nat.le_of_ble_eq_true rfl) dX7_stand_94 rfl rfl ?_
        refine J_pop (pc1 := 98) dX7_stand_97 rfl rfl ?_
        refine J_iinc (i := 3) (q := 3) (v := x24 + 1) (lv1 := [(3, .int (x24 + 1)), (0, .ref (ad 0 0)), (1, .int a1), (2, .int r16)]) (pc1 := 101) dX7_stand_98 rfl rfl (by decide) rfl rfl ?_
        refine J_goto (tgt := 57) dX7_stand_101 (by decide) ?_
        refine J_sub [1, 2, 3, 0] (lv1 := [(0, .ref (ad 0 0)), (1, .int a1), (2, .int r16), (3, .int (x24 + 1))]) rfl ?_
        exact ihrec26 _ _ h
def mX7_answer (a1 : Int32) (a2 : Int32) (a3 : Int32) (μ : gM) : Option gM :=
  gBd (mX7_send 3 a1 (μ 4 0 1) a2 a3 μ) fun r2 μ3 =>
  if r2 < 0 then
    some μ3
  else
    gBp (mX7_put r2 7 (μ3 4 0 7) μ3) fun μ6 =>
    some μ6
set_option maxHeartbeats 4000000 in
set_option maxRecDepth 100000 in
theorem kX7_answer (l : Launch) (D : va_G) (tc : Nat → ClassId) (sa : Nat → Nat) (ad : Nat → Nat → Nat) (hI : gI gE_R ad) (a1 : Int32) (a2 : Int32) (a3 : Int32) (μ : gM) (μ' : gM) (h : mX7_answer a1 a2 a3 μ = some μ') : gMet l yX7_answer cX7_answer 5 (none) ({ frames := 2, cells := 0, slots := 0, locals := 50 } : Room) D gE_R gkd_R tc ad grh_R sa [.ref (ad 0 0), .int a1, .int a2, .int a3] μ (none) μ' := by
  refine gMet_of hI ⟨by decide +kernel, Nat.le_of_ble_eq_true rfl⟩ (fun p e s m args below meth c sz hr hlk => ?_)
  unfold mX7_answer at h
  show JR p l e ({ frames := 2, cells := 0, slots := 0, locals := 50 } : Room) s m args below meth c cX7_answer 5 RX7 D tc sa ad sz (none) μ' μ 0 [(0, .ref (ad 0 0)), (1, .int a1), (2, .int a2), (3, .int a3)] []
  refine J_aload_n (i := 0) (q := 0) (pc1 := 1) dX7_answer_0 rfl rfl rfl ?_
  refine J_iconst (v := 3) (pc1 := 2) dX7_answer_1 (by decide) rfl ?_
  refine J_iload_n (i := 1) (q := 1) (pc1 := 3) dX7_answer_2 rfl rfl rfl ?_
  refine J_aload_n (i := 0) (q := 0) (pc1 := 4) dX7_answer_3 rfl rfl rfl ?_
  refine J_getR (T := TX7) (f' := 4) (i' := 0) (pc1 := 7) eR0 rfl rfl inX7 4 (by decide) rfl rfl flX7_16 rfl dX7_answer_4 rfl ?_
  refine J_iconst (v := 1) (pc1 := 8) dX7_answer_7 (by decide) rfl ?_
  refine J_iald (ix := 1) (pc1 := 9) (by decide) eR4 rfl (by decide : inb 1 25) dX7_answer_8 rfl ?_
  refine J_iload_n (i := 2) (q := 2) (pc1 := 10) dX7_answer_9 rfl rfl rfl ?_
  refine J_iload_n (i := 3) (q := 3) (pc1 := 11) dX7_answer_10 rfl rfl rfl ?_
  obtain ⟨r2, μ3, hc1, h⟩ := gBd_s h
  refine J_callV (As := [.int 3, .int a1, .int (μ 4 0 1), .int a2, .int a3]) (ad := ad) (f := 0) (i := 0) (st := []) (st1 := [.int r2]) (pc1 := 14) (kX7_send l D tc sa ad hI 3 a1 (μ 4 0 1) a2 a3 μ r2 μ3 hc1) wcX7_send wlX7_95 eR0 rfl rfl rfl ⟨rfl, rfl, Nat.le_of_ble_eq_true rfl, Nat.le_of_ble_eq_true rfl⟩ ⟨Nat.zero_le _, Nat.zero_le _⟩ (Nat.le_of_ble_eq_true rfl) dX7_answer_11 rfl rfl ?_
  refine J_istore (i := 4) (lv1 := [(4, .int r2), (0, .ref (ad 0 0)), (1, .int a1), (2, .int a2), (3, .int a3)]) (pc1 := 16) dX7_answer_14 (by decide) rfl rfl ?_
  refine J_iload (i := 4) (q := 0) (pc1 := 18) dX7_answer_16 rfl rfl ?_
  refine J_if_lt (tgt := 36) (pc1 := 21) dX7_answer_18 (by decide) (fun q4 => ?_) rfl (fun q4 => ?_)
  · rw [if_pos q4] at h
    cases h
    exact J_vret hr hlk dX7_answer_36
  · rw [if_neg q4] at h
    refine J_aload_n (i := 0) (q := 1) (pc1 := 22) dX7_answer_21 rfl rfl rfl ?_
    refine J_iload (i := 4) (q := 0) (pc1 := 24) dX7_answer_22 rfl rfl ?_
    refine J_bipush (v := 7) (pc1 := 26) dX7_answer_24 (by decide) rfl ?_
    refine J_aload_n (i := 0) (q := 1) (pc1 := 27) dX7_answer_26 rfl rfl rfl ?_
    refine J_getR (T := TX7) (f' := 4) (i' := 0) (pc1 := 30) eR0 rfl rfl inX7 4 (by decide) rfl rfl flX7_16 rfl dX7_answer_27 rfl ?_
    refine J_bipush (v := 7) (pc1 := 32) dX7_answer_30 (by decide) rfl ?_
    refine J_iald (ix := 7) (pc1 := 33) (by decide) eR4 rfl (by decide : inb 7 25) dX7_answer_32 rfl ?_
    obtain ⟨μ6, hc5, h⟩ := gBp_s h
    refine J_callV (As := [.int r2, .int 7, .int (μ3 4 0 7)]) (ad := ad) (f := 0) (i := 0) (st := []) (st1 := []) (pc1 := 36) (kX7_put l D tc sa ad hI r2 7 (μ3 4 0 7) μ3 μ6 hc5) wcX7_put wlX7_92 eR0 rfl rfl rfl ⟨rfl, rfl, Nat.le_of_ble_eq_true rfl, Nat.le_of_ble_eq_true rfl⟩ ⟨Nat.zero_le _, Nat.zero_le _⟩ (Nat.le_of_ble_eq_true rfl) dX7_answer_33 rfl rfl ?_
    cases h
    exact J_vret hr hlk dX7_answer_36
def mX7_receiveRequest (a1 : Int32) (μ : gM) : Option gM :=
  gLet (α := Int32) (μ 4 0 1) fun x1 =>
  gBp (mX7_last a1 μ) fun r6 =>
  gBp (mX7_termAt a1 r6 μ) fun r8 =>
  gJon (fun (x9 : Int32) =>
      gBp (mX7_of a1 3 μ) fun r12 =>
      gJon (fun (x13 : Int32) =>
          gBp (mX7_of a1 2 μ) fun r16 =>
          gJon (fun (x17 : Int32) =>
              gJon (fun (μ19 : gM) =>
                  gLet (α := Int32) (if x17 = 0 then 0 else 1) fun x21 =>
                  gBd (mX7_send 1 a1 x1 0 x21 μ19) fun r26 μ27 =>
                  some μ27) fun j20 =>
              if x17 = 0 then
                j20 μ
              else
                gBp (mX7_set a1 3 x1 μ) fun μ30 =>
                gBp (mX7_resetTimer a1 μ30) fun μ32 =>
                j20 μ32) fun j18 =>
          gJon (fun (u34 : Unit) =>
              j18 0) fun j33 =>
          if (μ 4 0 3) = r16 then
            if x13 = 0 then
              j33 () 
            else
              gLet (α := Int32) (if x9 = 0 then 0 else 1) fun x37 =>
              gJon (fun (μ41 : gM) =>
                  gLet (α := Int32) (if x37 = 0 then 0 else 1) fun x43 =>
                  gBd (mX7_send 1 a1 x1 0 x43 μ41) fun r48 μ49 =>
                  some μ49) fun j42 =>
              if x37 = 0 then
                j42 μ
              else
                gBp (mX7_set a1 3 x1 μ) fun μ52 =>
                gBp (mX7_resetTimer a1 μ52) fun μ54 =>
                j42 μ54
          else
            j33 () ) fun j14 =>
      gJon (fun (u56 : Unit) =>
          j14 1) fun j55 =>
      if r12 = (-1) then
        j55 () 
      else
        gBp (mX7_of a1 3 μ) fun r59 =>
        gLet (α := Int32) (if r59 = x1 then 1 else 0) fun x60 =>
        gBp (mX7_of a1 2 μ) fun r65 =>
        gJon (fun (x66 : Int32) =>
            gJon (fun (μ68 : gM) =>
                gLet (α := Int32) (if x66 = 0 then 0 else 1) fun x70 =>
                gBd (mX7_send 1 a1 x1 0 x70 μ68) fun r75 μ76 =>
                some μ76) fun j69 =>
            if x66 = 0 then
              j69 μ
            else
              gBp (mX7_set a1 3 x1 μ) fun μ79 =>
              gBp (mX7_resetTimer a1 μ79) fun μ81 =>
              j69 μ81) fun j67 =>
        gJon (fun (u83 : Unit) =>
            j67 0) fun j82 =>
        if (μ 4 0 3) = r65 then
          if x60 = 0 then
            j82 () 
          else
            gLet (α := Int32) (if x9 = 0 then 0 else 1) fun x86 =>
            gJon (fun (μ90 : gM) =>
                gLet (α := Int32) (if x86 = 0 then 0 else 1) fun x92 =>
                gBd (mX7_send 1 a1 x1 0 x92 μ90) fun r97 μ98 =>
                some μ98) fun j91 =>
            if x86 = 0 then
              j91 μ
            else
              gBp (mX7_set a1 3 x1 μ) fun μ101 =>
              gBp (mX7_resetTimer a1 μ101) fun μ103 =>
              j91 μ103
        else
          j82 () ) fun j10 =>
  gJon (fun (u105 : Unit) =>
      j10 1) fun j104 =>
  if r8 < (μ 4 0 6) then
    j104 () 
  else
    gJon (fun (u108 : Unit) =>
        j10 0) fun j107 =>
    if (μ 4 0 6) = r8 then
      gBp (mX7_last a1 μ) fun r111 =>
      gLet (α := Int32) (if (μ 4 0 5) < r111 then 0 else 1) fun x112 =>
      gBp (mX7_of a1 3 μ) fun r117 =>
      gJon (fun (x118 : Int32) =>
          gBp (mX7_of a1 2 μ) fun r121 =>
          gJon (fun (x122 : Int32) =>
              gJon (fun (μ124 : gM) =>
                  gLet (α := Int32) (if x122 = 0 then 0 else 1) fun x126 =>
                  gBd (mX7_send 1 a1 x1 0 x126 μ124) fun r131 μ132 =>
                  some μ132) fun j125 =>
              if x122 = 0 then
                j125 μ
              else
                gBp (mX7_set a1 3 x1 μ) fun μ135 =>
                gBp (mX7_resetTimer a1 μ135) fun μ137 =>
                j125 μ137) fun j123 =>
          gJon (fun (u139 : Unit) =>
              j123 0) fun j138 =>
          if (μ 4 0 3) = r121 then
            if x118 = 0 then
              j138 () 
            else
              gLet (α := Int32) (if x112 = 0 then 0 else 1) fun x142 =>
              gJon (fun (μ146 : gM) =>
                  gLet (α := Int32) (if x142 = 0 then 0 else 1) fun x148 =>
                  gBd (mX7_send 1 a1 x1 0 x148 μ146) fun r153 μ154 =>
                  some μ154) fun j147 =>
              if x142 = 0 then
                j147 μ
              else
                gBp (mX7_set a1 3 x1 μ) fun μ157 =>
                gBp (mX7_resetTimer a1 μ157) fun μ159 =>
                j147 μ159
          else
            j138 () ) fun j119 =>
      gJon (fun (u161 : Unit) =>
          j119 1) fun j160 =>
      if r117 = (-1) then
        j160 () 
      else
        gBp (mX7_of a1 3 μ) fun r164 =>
        gLet (α := Int32) (if r164 = x1 then 1 else 0) fun x165 =>
        gBp (mX7_of a1 2 μ) fun r170 =>
        gJon (fun (x171 : Int32) =>
            gJon (fun (μ173 : gM) =>
                gLet (α := Int32) (if x171 = 0 then 0 else 1) fun x175 =>
                gBd (mX7_send 1 a1 x1 0 x175 μ173) fun r180 μ181 =>
                some μ181) fun j174 =>
            if x171 = 0 then
              j174 μ
            else
              gBp (mX7_set a1 3 x1 μ) fun μ184 =>
              gBp (mX7_resetTimer a1 μ184) fun μ186 =>
              j174 μ186) fun j172 =>
        gJon (fun (u188 : Unit) =>
            j172 0) fun j187 =>
        if (μ 4 0 3) = r170 then
          if x165 = 0 then
            j187 () 
          else
            gLet (α := Int32) (if x112 = 0 then 0 else 1) fun x191 =>
            gJon (fun (μ195 : gM) =>
                gLet (α := Int32) (if x191 = 0 then 0 else 1) fun x197 =>
                gBd (mX7_send 1 a1 x1 0 x197 μ195) fun r202 μ203 =>
                some μ203) fun j196 =>
            if x191 = 0 then
              j196 μ
            else
              gBp (mX7_set a1 3 x1 μ) fun μ206 =>
              gBp (mX7_resetTimer a1 μ206) fun μ208 =>
              j196 μ208
        else
          j187 () 
    else
      j107 () 
set_option maxHeartbeats 4000000 in
set_option maxRecDepth 100000 in
theorem kX7_receiveRequest (l : Launch) (D : va_G) (tc : Nat → ClassId) (sa : Nat → Nat) (ad : Nat → Nat → Nat) (hI : gI gE_R ad) (a1 : Int32) (μ : gM) (μ' : gM) (h : mX7_receiveRequest a1 μ = some μ') : gMet l yX7_receiveRequest cX7_receiveRequest 7 (none) ({ frames := 3, cells := 0, slots := 0, locals := 67 } : Room) D gE_R gkd_R tc ad grh_R sa [.ref (ad 0 0), .int a1] μ (none) μ' := by
  refine gMet_of hI ⟨by decide +kernel, Nat.le_of_ble_eq_true rfl⟩ (fun p e s m args below meth c sz hr hlk => ?_)
  unfold mX7_receiveRequest at h
  show JR p l e ({ frames := 3, cells := 0, slots := 0, locals := 67 } : Room) s m args below meth c cX7_receiveRequest 7 RX7 D tc sa ad sz (none) μ' μ 0 [(0, .ref (ad 0 0)), (1, .int a1)] []
  refine J_aload_n (i := 0) (q := 0) (pc1 := 1) dX7_receiveRequest_0 rfl rfl rfl ?_
  refine J_getR (T := TX7) (f' := 4) (i' := 0) (pc1 := 4) eR0 rfl rfl inX7 4 (by decide) rfl rfl flX7_16 rfl dX7_receiveRequest_1 rfl ?_
  refine J_iconst (v := 1) (pc1 := 5) dX7_receiveRequest_4 (by decide) rfl ?_
  refine J_iald (ix := 1) (pc1 := 6) (by decide) eR4 rfl (by decide : inb 1 25) dX7_receiveRequest_5 rfl ?_
  obtain ⟨x1, e3, h⟩ := gLet_s h
  refine J_top (fun y2 e4 => ?_)
  have e4x : x1 = y2 := (e4.trans e3.symm).symm
  subst e4x
  refine J_istore_n (i := 2) (lv1 := [(2, .int x1), (0, .ref (ad 0 0)), (1, .int a1)]) (pc1 := 7) dX7_receiveRequest_6 rfl (by decide) rfl rfl ?_
  refine J_aload_n (i := 0) (q := 1) (pc1 := 8) dX7_receiveRequest_7 rfl rfl rfl ?_
  refine J_iload_n (i := 1) (q := 2) (pc1 := 9) dX7_receiveRequest_8 rfl rfl rfl ?_
  refine J_aload_n (i := 0) (q := 1) (pc1 := 10) dX7_receiveRequest_9 rfl rfl rfl ?_
  refine J_iload_n (i := 1) (q := 2) (pc1 := 11) dX7_receiveRequest_10 rfl rfl rfl ?_
  obtain ⟨r6, hc5, h⟩ := gBp_s h
  refine J_callV (As := [.int a1]) (ad := ad) (f := 0) (i := 0) (st := [.int a1, .ref (ad 0 0)]) (st1 := [.int r6, .int a1, .ref (ad 0 0)]) (pc1 := 14) (kX7_last l D tc sa ad hI a1 μ r6 hc5) wcX7_last wlX7_67 eR0 rfl rfl rfl ⟨rfl, rfl, Nat.le_of_ble_eq_true rfl, Nat.le_of_ble_eq_true rfl⟩ ⟨Nat.zero_le _, Nat.zero_le _⟩ (Nat.le_of_ble_eq_true rfl) dX7_receiveRequest_11 rfl rfl ?_
  obtain ⟨r8, hc7, h⟩ := gBp_s h
  refine J_callV (As := [.int a1, .int r6]) (ad := ad) (f := 0) (i := 0) (st := []) (st1 := [.int r8]) (pc1 := 17) (kX7_termAt l D tc sa ad hI a1 r6 μ r8 hc7) wcX7_termAt wlX7_99 eR0 rfl rfl rfl ⟨rfl, rfl, Nat.le_of_ble_eq_true rfl, Nat.le_of_ble_eq_true rfl⟩ ⟨Nat.zero_le _, Nat.zero_le _⟩ (Nat.le_of_ble_eq_true rfl) dX7_receiveRequest_14 rfl rfl ?_
  refine J_istore_n (i := 3) (lv1 := [(3, .int r8), (2, .int x1), (0, .ref (ad 0 0)), (1, .int a1)]) (pc1 := 18) dX7_receiveRequest_17 rfl (by decide) rfl rfl ?_
  refine J_aload_n (i := 0) (q := 2) (pc1 := 19) dX7_receiveRequest_18 rfl rfl rfl ?_
  refine J_getR (T := TX7) (f' := 4) (i' := 0) (pc1 := 22) eR0 rfl rfl inX7 4 (by decide) rfl rfl flX7_16 rfl dX7_receiveRequest_19 rfl ?_
  refine J_bipush (v := 6) (pc1 := 24) dX7_receiveRequest_22 (by decide) rfl ?_
  refine J_iald (ix := 6) (pc1 := 25) (by decide) eR4 rfl (by decide : inb 6 25) dX7_receiveRequest_24 rfl ?_
  refine J_iload_n (i := 3) (q := 0) (pc1 := 26) dX7_receiveRequest_25 rfl rfl rfl ?_
  obtain ⟨j10, ej10, h⟩ := gJon_s h
  have kj10 : ∀ (x9 : Int32), j10 x9 = some μ' → JR p l e ({ frames := 3, cells := 0, slots := 0, locals := 67 } : Room) s m args below meth c cX7_receiveRequest 7 RX7 D tc sa ad sz (none) μ' μ 59 [(0, .ref (ad 0 0)), (1, .int a1), (2, .int x1)] [.int x9] := by
    intro x9 h
    rw [ej10] at h
    try dsimp only at h
    refine J_istore (i := 4) (lv1 := [(4, .int x9), (0, .ref (ad 0 0)), (1, .int a1), (2, .int x1)]) (pc1 := 61) dX7_receiveRequest_59 (by decide) rfl rfl ?_
    refine J_aload_n (i := 0) (q := 1) (pc1 := 62) dX7_receiveRequest_61 rfl rfl rfl ?_
    refine J_iload_n (i := 1) (q := 2) (pc1 := 63) dX7_receiveRequest_62 rfl rfl rfl ?_
    refine J_iconst (v := 3) (pc1 := 64) dX7_receiveRequest_63 (by decide) rfl ?_
    obtain ⟨r12, hc11, h⟩ := gBp_s h
    refine J_callV (As := [.int a1, .int 3]) (ad := ad) (f := 0) (i := 0) (st := []) (st1 := [.int r12]) (pc1 := 67) (kX7_of l D tc sa ad hI a1 3 μ r12 hc11) wcX7_of wlX7_38 eR0 rfl rfl rfl ⟨rfl, rfl, Nat.le_of_ble_eq_true rfl, Nat.le_of_ble_eq_true rfl⟩ ⟨Nat.zero_le _, Nat.zero_le _⟩ (Nat.le_of_ble_eq_true rfl) dX7_receiveRequest_64 rfl rfl ?_
    refine J_iconst (v := (-1)) (pc1 := 68) dX7_receiveRequest_67 (by decide) rfl ?_
    obtain ⟨j14, ej14, h⟩ := gJon_s h
    have kj14 : ∀ (x13 : Int32), j14 x13 = some μ' → JR p l e ({ frames := 3, cells := 0, slots := 0, locals := 67 } : Room) s m args below meth c cX7_receiveRequest 7 RX7 D tc sa ad sz (none) μ' μ 86 [(0, .ref (ad 0 0)), (1, .int a1), (2, .int x1), (4, .int x9)] [.int x13] := by
      intro x13 h
      rw [ej14] at h
      try dsimp only at h
      refine J_istore (i := 5) (lv1 := [(5, .int x13), (0, .ref (ad 0 0)), (1, .int a1), (2, .int x1), (4, .int x9)]) (pc1 := 88) dX7_receiveRequest_86 (by decide) rfl rfl ?_
      refine J_aload_n (i := 0) (q := 1) (pc1 := 89) dX7_receiveRequest_88 rfl rfl rfl ?_
      refine J_getR (T := TX7) (f' := 4) (i' := 0) (pc1 := 92) eR0 rfl rfl inX7 4 (by decide) rfl rfl flX7_16 rfl dX7_receiveRequest_89 rfl ?_
      refine J_iconst (v := 3) (pc1 := 93) dX7_receiveRequest_92 (by decide) rfl ?_
      refine J_iald (ix := 3) (pc1 := 94) (by decide) eR4 rfl (by decide : inb 3 25) dX7_receiveRequest_93 rfl ?_
      refine J_aload_n (i := 0) (q := 1) (pc1 := 95) dX7_receiveRequest_94 rfl rfl rfl ?_
      refine J_iload_n (i := 1) (q := 2) (pc1 := 96) dX7_receiveRequest_95 rfl rfl rfl ?_
      refine J_iconst (v := 2) (pc1 := 97) dX7_receiveRequest_96 (by decide) rfl ?_
      obtain ⟨r16, hc15, h⟩ := gBp_s h
      refine J_callV (As := [.int a1, .int 2]) (ad := ad) (f := 0) (i := 0) (st := [.int (μ 4 0 3)]) (st1 := [.int r16, .int (μ 4 0 3)]) (pc1 := 100) (kX7_of l D tc sa ad hI a1 2 μ r16 hc15) wcX7_of wlX7_38 eR0 rfl rfl rfl ⟨rfl, rfl, Nat.le_of_ble_eq_true rfl, Nat.le_of_ble_eq_true rfl⟩ ⟨Nat.zero_le _, Nat.zero_le _⟩ (Nat.le_of_ble_eq_true rfl) dX7_receiveRequest_97 rfl rfl ?_
      obtain ⟨j18, ej18, h⟩ := gJon_s h
      have kj18 : ∀ (x17 : Int32), j18 x17 = some μ' → JR p l e ({ frames := 3, cells := 0, slots := 0, locals := 67 } : Room) s m args below meth c cX7_receiveRequest 7 RX7 D tc sa ad sz (none) μ' μ 118 [(0, .ref (ad 0 0)), (1, .int a1), (2, .int x1)] [.int x17] := by
        intro x17 h
        rw [ej18] at h
        try dsimp only at h
        refine J_istore (i := 6) (lv1 := [(6, .int x17), (0, .ref (ad 0 0)), (1, .int a1), (2, .int x1)]) (pc1 := 120) dX7_receiveRequest_118 (by decide) rfl rfl ?_
        refine J_iload (i := 6) (q := 0) (pc1 := 122) dX7_receiveRequest_120 rfl rfl ?_
        obtain ⟨j20, ej20, h⟩ := gJon_s h
        have kj20 : ∀ (μ19 : gM), j20 μ19 = some μ' → JR p l e ({ frames := 3, cells := 0, slots := 0, locals := 67 } : Room) s m args below meth c cX7_receiveRequest 7 RX7 D tc sa ad sz (none) μ' μ19 137 [(0, .ref (ad 0 0)), (1, .int a1), (2, .int x1), (6, .int x17)] [] := by
          intro μ19 h
          rw [ej20] at h
          try dsimp only at h
          refine J_aload_n (i := 0) (q := 0) (pc1 := 138) dX7_receiveRequest_137 rfl rfl rfl ?_
          refine J_iconst (v := 1) (pc1 := 139) dX7_receiveRequest_138 (by decide) rfl ?_
          refine J_iload_n (i := 1) (q := 1) (pc1 := 140) dX7_receiveRequest_139 rfl rfl rfl ?_
          refine J_iload_n (i := 2) (q := 2) (pc1 := 141) dX7_receiveRequest_140 rfl rfl rfl ?_
          refine J_iconst (v := 0) (pc1 := 142) dX7_receiveRequest_141 (by decide) rfl ?_
          refine J_iload (i := 6) (q := 3) (pc1 := 144) dX7_receiveRequest_142 rfl rfl ?_
          obtain ⟨x21, e22, h⟩ := gLet_s h
          have k23 : JR p l e ({ frames := 3, cells := 0, slots := 0, locals := 67 } : Room) s m args below meth c cX7_receiveRequest 7 RX7 D tc sa ad sz (none) μ' μ19 152 [(0, .ref (ad 0 0)), (1, .int a1), (2, .int x1), (6, .int x17)] [.int x21, .int 0, .int x1, .int a1, .int 1, .ref (ad 0 0)] := by
            obtain ⟨r26, μ27, hc25, h⟩ := gBd_s h
            refine J_callV (As := [.int 1, .int a1, .int x1, .int 0, .int x21]) (ad := ad) (f := 0) (i := 0) (st := []) (st1 := [.int r26]) (pc1 := 155) (kX7_send l D tc sa ad hI 1 a1 x1 0 x21 μ19 r26 μ27 hc25) wcX7_send wlX7_95 eR0 rfl rfl rfl ⟨rfl, rfl, Nat.le_of_ble_eq_true rfl, Nat.le_of_ble_eq_true rfl⟩ ⟨Nat.zero_le _, Nat.zero_le _⟩ (Nat.le_of_ble_eq_true rfl) dX7_receiveRequest_152 rfl rfl ?_
            refine J_pop (pc1 := 156) dX7_receiveRequest_155 rfl rfl ?_
            cases h
            exact J_vret hr hlk dX7_receiveRequest_156
          refine J_if_eq (tgt := 151) (pc1 := 147) dX7_receiveRequest_144 (by decide) (fun q24 => ?_) rfl (fun q24 => ?_)
          · rw [if_pos q24] at e22
            subst e22
            refine J_iconst (v := 0) (pc1 := 152) dX7_receiveRequest_151 (by decide) rfl ?_
            exact k23
          · rw [if_neg q24] at e22
            subst e22
            refine J_iconst (v := 1) (pc1 := 148) dX7_receiveRequest_147 (by decide) rfl ?_
            refine J_goto (tgt := 152) dX7_receiveRequest_148 (by decide) ?_
            exact k23
        clear ej20
        refine J_if_eq (tgt := 137) (pc1 := 125) dX7_receiveRequest_122 (by decide) (fun q28 => ?_) rfl (fun q28 => ?_)
        · rw [if_pos q28] at h
          refine J_sub [1, 2, 3, 0] (lv1 := [(0, .ref (ad 0 0)), (1, .int a1), (2, .int x1), (6, .int x17)]) rfl ?_
          exact kj20 _ h
        · rw [if_neg q28] at h
          refine J_aload_n (i := 0) (q := 1) (pc1 := 126) dX7_receiveRequest_125 rfl rfl rfl ?_
          refine J_iload_n (i := 1) (q := 2) (pc1 := 127) dX7_receiveRequest_126 rfl rfl rfl ?_
          refine J_iconst (v := 3) (pc1 := 128) dX7_receiveRequest_127 (by decide) rfl ?_
          refine J_iload_n (i := 2) (q := 3) (pc1 := 129) dX7_receiveRequest_128 rfl rfl rfl ?_
          obtain ⟨μ30, hc29, h⟩ := gBp_s h
          refine J_callV (As := [.int a1, .int 3, .int x1]) (ad := ad) (f := 0) (i := 0) (st := []) (st1 := []) (pc1 := 132) (kX7_set l D tc sa ad hI a1 3 x1 μ μ30 hc29) wcX7_set wlX7_43 eR0 rfl rfl rfl ⟨rfl, rfl, Nat.le_of_ble_eq_true rfl, Nat.le_of_ble_eq_true rfl⟩ ⟨Nat.zero_le _, Nat.zero_le _⟩ (Nat.le_of_ble_eq_true rfl) dX7_receiveRequest_129 rfl rfl ?_
          refine J_aload_n (i := 0) (q := 1) (pc1 := 133) dX7_receiveRequest_132 rfl rfl rfl ?_
          refine J_iload_n (i := 1) (q := 2) (pc1 := 134) dX7_receiveRequest_133 rfl rfl rfl ?_
          obtain ⟨μ32, hc31, h⟩ := gBp_s h
          refine J_callV (As := [.int a1]) (ad := ad) (f := 0) (i := 0) (st := []) (st1 := []) (pc1 := 137) (kX7_resetTimer l D tc sa ad hI a1 μ30 μ32 hc31) wcX7_resetTimer wlX7_47 eR0 rfl rfl rfl ⟨rfl, rfl, Nat.le_of_ble_eq_true rfl, Nat.le_of_ble_eq_true rfl⟩ ⟨Nat.zero_le _, Nat.zero_le _⟩ (Nat.le_of_ble_eq_true rfl) dX7_receiveRequest_134 rfl rfl ?_
          refine J_sub [1, 2, 3, 0] (lv1 := [(0, .ref (ad 0 0)), (1, .int a1), (2, .int x1), (6, .int x17)]) rfl ?_
          exact kj20 _ h
      clear ej18
      obtain ⟨j33, ej33, h⟩ := gJon_s h
      have kj33 : ∀ (u34 : Unit), j33 u34 = some μ' → JR p l e ({ frames := 3, cells := 0, slots := 0, locals := 67 } : Room) s m args below meth c cX7_receiveRequest 7 RX7 D tc sa ad sz (none) μ' μ 117 [(0, .ref (ad 0 0)), (1, .int a1), (2, .int x1)] [] := by
        intro u34 h
        rw [ej33] at h
        try dsimp only at h
        refine J_iconst (v := 0) (pc1 := 118) dX7_receiveRequest_117 (by decide) rfl ?_
        exact kj18 _ h
      clear ej33
      refine J_icmp_ne (tgt := 117) (pc1 := 103) dX7_receiveRequest_100 (by decide) (fun q35 => ?_) rfl (fun q35 => ?_)
      · rw [if_neg q35] at h
        refine J_sub [1, 2, 3] (lv1 := [(0, .ref (ad 0 0)), (1, .int a1), (2, .int x1)]) rfl ?_
        exact kj33 ()  h
      · rw [if_pos q35] at h
        refine J_iload (i := 5) (q := 0) (pc1 := 105) dX7_receiveRequest_103 rfl rfl ?_
        refine J_if_eq (tgt := 117) (pc1 := 108) dX7_receiveRequest_105 (by decide) (fun q36 => ?_) rfl (fun q36 => ?_)
        · rw [if_pos q36] at h
          refine J_sub [1, 2, 3] (lv1 := [(0, .ref (ad 0 0)), (1, .int a1), (2, .int x1)]) rfl ?_
          exact kj33 ()  h
        · rw [if_neg q36] at h
          refine J_iload (i := 4) (q := 4) (pc1 := 110) dX7_receiveRequest_108 rfl rfl ?_
          obtain ⟨x37, e38, h⟩ := gLet_s h
          have k39 : JR p l e ({ frames := 3, cells := 0, slots := 0, locals := 67 } : Room) s m args below meth c cX7_receiveRequest 7 RX7 D tc sa ad sz (none) μ' μ 118 [(5, .int x13), (0, .ref (ad 0 0)), (1, .int a1), (2, .int x1), (4, .int x9)] [.int x37] := by
            refine J_istore (i := 6) (lv1 := [(6, .int x37), (5, .int x13), (0, .ref (ad 0 0)), (1, .int a1), (2, .int x1), (4, .int x9)]) (pc1 := 120) dX7_receiveRequest_118 (by decide) rfl rfl ?_
            refine J_iload (i := 6) (q := 0) (pc1 := 122) dX7_receiveRequest_120 rfl rfl ?_
            obtain ⟨j42, ej42, h⟩ := gJon_s h
            have kj42 : ∀ (μ41 : gM), j42 μ41 = some μ' → JR p l e ({ frames := 3, cells := 0, slots := 0, locals := 67 } : Room) s m args below meth c cX7_receiveRequest 7 RX7 D tc sa ad sz (none) μ' μ41 137 [(0, .ref (ad 0 0)), (1, .int a1), (2, .int x1), (6, .int x37)] [] := by
              intro μ41 h
              rw [ej42] at h
              try dsimp only at h
              refine J_aload_n (i := 0) (q := 0) (pc1 := 138) dX7_receiveRequest_137 rfl rfl rfl ?_
              refine J_iconst (v := 1) (pc1 := 139) dX7_receiveRequest_138 (by decide) rfl ?_
              refine J_iload_n (i := 1) (q := 1) (pc1 := 140) dX7_receiveRequest_139 rfl rfl rfl ?_
              refine J_iload_n (i := 2) (q := 2) (pc1 := 141) dX7_receiveRequest_140 rfl rfl rfl ?_
              refine J_iconst (v := 0) (pc1 := 142) dX7_receiveRequest_141 (by decide) rfl ?_
              refine J_iload (i := 6) (q := 3) (pc1 := 144) dX7_receiveRequest_142 rfl rfl ?_
              obtain ⟨x43, e44, h⟩ := gLet_s h
              have k45 : JR p l e ({ frames := 3, cells := 0, slots := 0, locals := 67 } : Room) s m args below meth c cX7_receiveRequest 7 RX7 D tc sa ad sz (none) μ' μ41 152 [(0, .ref (ad 0 0)), (1, .int a1), (2, .int x1), (6, .int x37)] [.int x43, .int 0, .int x1, .int a1, .int 1, .ref (ad 0 0)] := by
                obtain ⟨r48, μ49, hc47, h⟩ := gBd_s h
                refine J_callV (As := [.int 1, .int a1, .int x1, .int 0, .int x43]) (ad := ad) (f := 0) (i := 0) (st := []) (st1 := [.int r48]) (pc1 := 155) (kX7_send l D tc sa ad hI 1 a1 x1 0 x43 μ41 r48 μ49 hc47) wcX7_send wlX7_95 eR0 rfl rfl rfl ⟨rfl, rfl, Nat.le_of_ble_eq_true rfl, Nat.le_of_ble_eq_true rfl⟩ ⟨Nat.zero_le _, Nat.zero_le _⟩ (Nat.le_of_ble_eq_true rfl) dX7_receiveRequest_152 rfl rfl ?_
                refine J_pop (pc1 := 156) dX7_receiveRequest_155 rfl rfl ?_
                cases h
                exact J_vret hr hlk dX7_receiveRequest_156
              refine J_if_eq (tgt := 151) (pc1 := 147) dX7_receiveRequest_144 (by decide) (fun q46 => ?_) rfl (fun q46 => ?_)
              · rw [if_pos q46] at e44
                subst e44
                refine J_iconst (v := 0) (pc1 := 152) dX7_receiveRequest_151 (by decide) rfl ?_
                exact k45
              · rw [if_neg q46] at e44
                subst e44
                refine J_iconst (v := 1) (pc1 := 148) dX7_receiveRequest_147 (by decide) rfl ?_
                refine J_goto (tgt := 152) dX7_receiveRequest_148 (by decide) ?_
                exact k45
            clear ej42
            refine J_if_eq (tgt := 137) (pc1 := 125) dX7_receiveRequest_122 (by decide) (fun q50 => ?_) rfl (fun q50 => ?_)
            · rw [if_pos q50] at h
              refine J_sub [2, 3, 4, 0] (lv1 := [(0, .ref (ad 0 0)), (1, .int a1), (2, .int x1), (6, .int x37)]) rfl ?_
              exact kj42 _ h
            · rw [if_neg q50] at h
              refine J_aload_n (i := 0) (q := 2) (pc1 := 126) dX7_receiveRequest_125 rfl rfl rfl ?_
              refine J_iload_n (i := 1) (q := 3) (pc1 := 127) dX7_receiveRequest_126 rfl rfl rfl ?_
              refine J_iconst (v := 3) (pc1 := 128) dX7_receiveRequest_127 (by decide) rfl ?_
              refine J_iload_n (i := 2) (q := 4) (pc1 := 129) dX7_receiveRequest_128 rfl rfl rfl ?_
              obtain ⟨μ52, hc51, h⟩ := gBp_s h
              refine J_callV (As := [.int a1, .int 3, .int x1]) (ad := ad) (f := 0) (i := 0) (st := []) (st1 := []) (pc1 := 132) (kX7_set l D tc sa ad hI a1 3 x1 μ μ52 hc51) wcX7_set wlX7_43 eR0 rfl rfl rfl ⟨rfl, rfl, Nat.le_of_ble_eq_true rfl, Nat.le_of_ble_eq_true rfl⟩ ⟨Nat.zero_le _, Nat.zero_le _⟩ (Nat.le_of_ble_eq_true rfl) dX7_receiveRequest_129 rfl rfl ?_
              refine J_aload_n (i := 0) (q := 2) (pc1 := 133) dX7_receiveRequest_132 rfl rfl rfl ?_
              refine J_iload_n (i := 1) (q := 3) (pc1 := 134) dX7_receiveRequest_133 rfl rfl rfl ?_
              obtain ⟨μ54, hc53, h⟩ := gBp_s h
              refine J_callV (As := [.int a1]) (ad := ad) (f := 0) (i := 0) (st := []) (st1 := []) (pc1 := 137) (kX7_resetTimer l D tc sa ad hI a1 μ52 μ54 hc53) wcX7_resetTimer wlX7_47 eR0 rfl rfl rfl ⟨rfl, rfl, Nat.le_of_ble_eq_true rfl, Nat.le_of_ble_eq_true rfl⟩ ⟨Nat.zero_le _, Nat.zero_le _⟩ (Nat.le_of_ble_eq_true rfl) dX7_receiveRequest_134 rfl rfl ?_
              refine J_sub [2, 3, 4, 0] (lv1 := [(0, .ref (ad 0 0)), (1, .int a1), (2, .int x1), (6, .int x37)]) rfl ?_
              exact kj42 _ h
          refine J_if_eq (tgt := 117) (pc1 := 113) dX7_receiveRequest_110 (by decide) (fun q40 => ?_) rfl (fun q40 => ?_)
          · rw [if_pos q40] at e38
            subst e38
            refine J_iconst (v := 0) (pc1 := 118) dX7_receiveRequest_117 (by decide) rfl ?_
            exact k39
          · rw [if_neg q40] at e38
            subst e38
            refine J_iconst (v := 1) (pc1 := 114) dX7_receiveRequest_113 (by decide) rfl ?_
            refine J_goto (tgt := 118) dX7_receiveRequest_114 (by decide) ?_
            exact k39
    clear ej14
    obtain ⟨j55, ej55, h⟩ := gJon_s h
    have kj55 : ∀ (u56 : Unit), j55 u56 = some μ' → JR p l e ({ frames := 3, cells := 0, slots := 0, locals := 67 } : Room) s m args below meth c cX7_receiveRequest 7 RX7 D tc sa ad sz (none) μ' μ 81 [(0, .ref (ad 0 0)), (1, .int a1), (2, .int x1), (4, .int x9)] [] := by
      intro u56 h
      rw [ej55] at h
      try dsimp only at h
      refine J_iconst (v := 1) (pc1 := 82) dX7_receiveRequest_81 (by decide) rfl ?_
      refine J_goto (tgt := 86) dX7_receiveRequest_82 (by decide) ?_
      exact kj14 _ h
    clear ej55
    refine J_icmp_eq (tgt := 81) (pc1 := 71) dX7_receiveRequest_68 (by decide) (fun q57 => ?_) rfl (fun q57 => ?_)
    · rw [if_pos q57] at h
      refine J_sub [1, 2, 3, 0] (lv1 := [(0, .ref (ad 0 0)), (1, .int a1), (2, .int x1), (4, .int x9)]) rfl ?_
      exact kj55 ()  h
    · rw [if_neg q57] at h
      refine J_aload_n (i := 0) (q := 1) (pc1 := 72) dX7_receiveRequest_71 rfl rfl rfl ?_
      refine J_iload_n (i := 1) (q := 2) (pc1 := 73) dX7_receiveRequest_72 rfl rfl rfl ?_
      refine J_iconst (v := 3) (pc1 := 74) dX7_receiveRequest_73 (by decide) rfl ?_
      obtain ⟨r59, hc58, h⟩ := gBp_s h
      refine J_callV (As := [.int a1, .int 3]) (ad := ad) (f := 0) (i := 0) (st := []) (st1 := [.int r59]) (pc1 := 77) (kX7_of l D tc sa ad hI a1 3 μ r59 hc58) wcX7_of wlX7_38 eR0 rfl rfl rfl ⟨rfl, rfl, Nat.le_of_ble_eq_true rfl, Nat.le_of_ble_eq_true rfl⟩ ⟨Nat.zero_le _, Nat.zero_le _⟩ (Nat.le_of_ble_eq_true rfl) dX7_receiveRequest_74 rfl rfl ?_
      refine J_iload_n (i := 2) (q := 3) (pc1 := 78) dX7_receiveRequest_77 rfl rfl rfl ?_
      obtain ⟨x60, e61, h⟩ := gLet_s h
      have k62 : JR p l e ({ frames := 3, cells := 0, slots := 0, locals := 67 } : Room) s m args below meth c cX7_receiveRequest 7 RX7 D tc sa ad sz (none) μ' μ 86 [(4, .int x9), (0, .ref (ad 0 0)), (1, .int a1), (2, .int x1)] [.int x60] := by
        refine J_istore (i := 5) (lv1 := [(5, .int x60), (4, .int x9), (0, .ref (ad 0 0)), (1, .int a1), (2, .int x1)]) (pc1 := 88) dX7_receiveRequest_86 (by decide) rfl rfl ?_
        refine J_aload_n (i := 0) (q := 2) (pc1 := 89) dX7_receiveRequest_88 rfl rfl rfl ?_
        refine J_getR (T := TX7) (f' := 4) (i' := 0) (pc1 := 92) eR0 rfl rfl inX7 4 (by decide) rfl rfl flX7_16 rfl dX7_receiveRequest_89 rfl ?_
        refine J_iconst (v := 3) (pc1 := 93) dX7_receiveRequest_92 (by decide) rfl ?_
        refine J_iald (ix := 3) (pc1 := 94) (by decide) eR4 rfl (by decide : inb 3 25) dX7_receiveRequest_93 rfl ?_
        refine J_aload_n (i := 0) (q := 2) (pc1 := 95) dX7_receiveRequest_94 rfl rfl rfl ?_
        refine J_iload_n (i := 1) (q := 3) (pc1 := 96) dX7_receiveRequest_95 rfl rfl rfl ?_
        refine J_iconst (v := 2) (pc1 := 97) dX7_receiveRequest_96 (by decide) rfl ?_
        obtain ⟨r65, hc64, h⟩ := gBp_s h
        refine J_callV (As := [.int a1, .int 2]) (ad := ad) (f := 0) (i := 0) (st := [.int (μ 4 0 3)]) (st1 := [.int r65, .int (μ 4 0 3)]) (pc1 := 100) (kX7_of l D tc sa ad hI a1 2 μ r65 hc64) wcX7_of wlX7_38 eR0 rfl rfl rfl ⟨rfl, rfl, Nat.le_of_ble_eq_true rfl, Nat.le_of_ble_eq_true rfl⟩ ⟨Nat.zero_le _, Nat.zero_le _⟩ (Nat.le_of_ble_eq_true rfl) dX7_receiveRequest_97 rfl rfl ?_
        obtain ⟨j67, ej67, h⟩ := gJon_s h
        have kj67 : ∀ (x66 : Int32), j67 x66 = some μ' → JR p l e ({ frames := 3, cells := 0, slots := 0, locals := 67 } : Room) s m args below meth c cX7_receiveRequest 7 RX7 D tc sa ad sz (none) μ' μ 118 [(0, .ref (ad 0 0)), (1, .int a1), (2, .int x1)] [.int x66] := by
          intro x66 h
          rw [ej67] at h
          try dsimp only at h
          refine J_istore (i := 6) (lv1 := [(6, .int x66), (0, .ref (ad 0 0)), (1, .int a1), (2, .int x1)]) (pc1 := 120) dX7_receiveRequest_118 (by decide) rfl rfl ?_
          refine J_iload (i := 6) (q := 0) (pc1 := 122) dX7_receiveRequest_120 rfl rfl ?_
          obtain ⟨j69, ej69, h⟩ := gJon_s h
          have kj69 : ∀ (μ68 : gM), j69 μ68 = some μ' → JR p l e ({ frames := 3, cells := 0, slots := 0, locals := 67 } : Room) s m args below meth c cX7_receiveRequest 7 RX7 D tc sa ad sz (none) μ' μ68 137 [(0, .ref (ad 0 0)), (1, .int a1), (2, .int x1), (6, .int x66)] [] := by
            intro μ68 h
            rw [ej69] at h
            try dsimp only at h
            refine J_aload_n (i := 0) (q := 0) (pc1 := 138) dX7_receiveRequest_137 rfl rfl rfl ?_
            refine J_iconst (v := 1) (pc1 := 139) dX7_receiveRequest_138 (by decide) rfl ?_
            refine J_iload_n (i := 1) (q := 1) (pc1 := 140) dX7_receiveRequest_139 rfl rfl rfl ?_
            refine J_iload_n (i := 2) (q := 2) (pc1 := 141) dX7_receiveRequest_140 rfl rfl rfl ?_
            refine J_iconst (v := 0) (pc1 := 142) dX7_receiveRequest_141 (by decide) rfl ?_
            refine J_iload (i := 6) (q := 3) (pc1 := 144) dX7_receiveRequest_142 rfl rfl ?_
            obtain ⟨x70, e71, h⟩ := gLet_s h
            have k72 : JR p l e ({ frames := 3, cells := 0, slots := 0, locals := 67 } : Room) s m args below meth c cX7_receiveRequest 7 RX7 D tc sa ad sz (none) μ' μ68 152 [(0, .ref (ad 0 0)), (1, .int a1), (2, .int x1), (6, .int x66)] [.int x70, .int 0, .int x1, .int a1, .int 1, .ref (ad 0 0)] := by
              obtain ⟨r75, μ76, hc74, h⟩ := gBd_s h
              refine J_callV (As := [.int 1, .int a1, .int x1, .int 0, .int x70]) (ad := ad) (f := 0) (i := 0) (st := []) (st1 := [.int r75]) (pc1 := 155) (kX7_send l D tc sa ad hI 1 a1 x1 0 x70 μ68 r75 μ76 hc74) wcX7_send wlX7_95 eR0 rfl rfl rfl ⟨rfl, rfl, Nat.le_of_ble_eq_true rfl, Nat.le_of_ble_eq_true rfl⟩ ⟨Nat.zero_le _, Nat.zero_le _⟩ (Nat.le_of_ble_eq_true rfl) dX7_receiveRequest_152 rfl rfl ?_
              refine J_pop (pc1 := 156) dX7_receiveRequest_155 rfl rfl ?_
              cases h
              exact J_vret hr hlk dX7_receiveRequest_156
            refine J_if_eq (tgt := 151) (pc1 := 147) dX7_receiveRequest_144 (by decide) (fun q73 => ?_) rfl (fun q73 => ?_)
            · rw [if_pos q73] at e71
              subst e71
              refine J_iconst (v := 0) (pc1 := 152) dX7_receiveRequest_151 (by decide) rfl ?_
              exact k72
            · rw [if_neg q73] at e71
              subst e71
              refine J_iconst (v := 1) (pc1 := 148) dX7_receiveRequest_147 (by decide) rfl ?_
              refine J_goto (tgt := 152) dX7_receiveRequest_148 (by decide) ?_
              exact k72
          clear ej69
          refine J_if_eq (tgt := 137) (pc1 := 125) dX7_receiveRequest_122 (by decide) (fun q77 => ?_) rfl (fun q77 => ?_)
          · rw [if_pos q77] at h
            refine J_sub [1, 2, 3, 0] (lv1 := [(0, .ref (ad 0 0)), (1, .int a1), (2, .int x1), (6, .int x66)]) rfl ?_
            exact kj69 _ h
          · rw [if_neg q77] at h
            refine J_aload_n (i := 0) (q := 1) (pc1 := 126) dX7_receiveRequest_125 rfl rfl rfl ?_
            refine J_iload_n (i := 1) (q := 2) (pc1 := 127) dX7_receiveRequest_126 rfl rfl rfl ?_
            refine J_iconst (v := 3) (pc1 := 128) dX7_receiveRequest_127 (by decide) rfl ?_
            refine J_iload_n (i := 2) (q := 3) (pc1 := 129) dX7_receiveRequest_128 rfl rfl rfl ?_
            obtain ⟨μ79, hc78, h⟩ := gBp_s h
            refine J_callV (As := [.int a1, .int 3, .int x1]) (ad := ad) (f := 0) (i := 0) (st := []) (st1 := []) (pc1 := 132) (kX7_set l D tc sa ad hI a1 3 x1 μ μ79 hc78) wcX7_set wlX7_43 eR0 rfl rfl rfl ⟨rfl, rfl, Nat.le_of_ble_eq_true rfl, Nat.le_of_ble_eq_true rfl⟩ ⟨Nat.zero_le _, Nat.zero_le _⟩ (Nat.le_of_ble_eq_true rfl) dX7_receiveRequest_129 rfl rfl ?_
            refine J_aload_n (i := 0) (q := 1) (pc1 := 133) dX7_receiveRequest_132 rfl rfl rfl ?_
            refine J_iload_n (i := 1) (q := 2) (pc1 := 134) dX7_receiveRequest_133 rfl rfl rfl ?_
            obtain ⟨μ81, hc80, h⟩ := gBp_s h
            refine J_callV (As := [.int a1]) (ad := ad) (f := 0) (i := 0) (st := []) (st1 := []) (pc1 := 137) (kX7_resetTimer l D tc sa ad hI a1 μ79 μ81 hc80) wcX7_resetTimer wlX7_47 eR0 rfl rfl rfl ⟨rfl, rfl, Nat.le_of_ble_eq_true rfl, Nat.le_of_ble_eq_true rfl⟩ ⟨Nat.zero_le _, Nat.zero_le _⟩ (Nat.le_of_ble_eq_true rfl) dX7_receiveRequest_134 rfl rfl ?_
            refine J_sub [1, 2, 3, 0] (lv1 := [(0, .ref (ad 0 0)), (1, .int a1), (2, .int x1), (6, .int x66)]) rfl ?_
            exact kj69 _ h
        clear ej67
        obtain ⟨j82, ej82, h⟩ := gJon_s h
        have kj82 : ∀ (u83 : Unit), j82 u83 = some μ' → JR p l e ({ frames := 3, cells := 0, slots := 0, locals := 67 } : Room) s m args below meth c cX7_receiveRequest 7 RX7 D tc sa ad sz (none) μ' μ 117 [(0, .ref (ad 0 0)), (1, .int a1), (2, .int x1)] [] := by
          intro u83 h
          rw [ej82] at h
          try dsimp only at h
          refine J_iconst (v := 0) (pc1 := 118) dX7_receiveRequest_117 (by decide) rfl ?_
          exact kj67 _ h
        clear ej82
        refine J_icmp_ne (tgt := 117) (pc1 := 103) dX7_receiveRequest_100 (by decide) (fun q84 => ?_) rfl (fun q84 => ?_)
        · rw [if_neg q84] at h
          refine J_sub [2, 3, 4] (lv1 := [(0, .ref (ad 0 0)), (1, .int a1), (2, .int x1)]) rfl ?_
          exact kj82 ()  h
        · rw [if_pos q84] at h
          refine J_iload (i := 5) (q := 0) (pc1 := 105) dX7_receiveRequest_103 rfl rfl ?_
          refine J_if_eq (tgt := 117) (pc1 := 108) dX7_receiveRequest_105 (by decide) (fun q85 => ?_) rfl (fun q85 => ?_)
          · rw [if_pos q85] at h
            refine J_sub [2, 3, 4] (lv1 := [(0, .ref (ad 0 0)), (1, .int a1), (2, .int x1)]) rfl ?_
            exact kj82 ()  h
          · rw [if_neg q85] at h
            refine J_iload (i := 4) (q := 1) (pc1 := 110) dX7_receiveRequest_108 rfl rfl ?_
            obtain ⟨x86, e87, h⟩ := gLet_s h
            have k88 : JR p l e ({ frames := 3, cells := 0, slots := 0, locals := 67 } : Room) s m args below meth c cX7_receiveRequest 7 RX7 D tc sa ad sz (none) μ' μ 118 [(5, .int x60), (4, .int x9), (0, .ref (ad 0 0)), (1, .int a1), (2, .int x1)] [.int x86] := by
              refine J_istore (i := 6) (lv1 := [(6, .int x86), (5, .int x60), (4, .int x9), (0, .ref (ad 0 0)), (1, .int a1), (2, .int x1)]) (pc1 := 120) dX7_receiveRequest_118 (by decide) rfl rfl ?_
              refine J_iload (i := 6) (q := 0) (pc1 := 122) dX7_receiveRequest_120 rfl rfl ?_
              obtain ⟨j91, ej91, h⟩ := gJon_s h
              have kj91 : ∀ (μ90 : gM), j91 μ90 = some μ' → JR p l e ({ frames := 3, cells := 0, slots := 0, locals := 67 } : Room) s m args below meth c cX7_receiveRequest 7 RX7 D tc sa ad sz (none) μ' μ90 137 [(0, .ref (ad 0 0)), (1, .int a1), (2, .int x1), (6, .int x86)] [] := by
                intro μ90 h
                rw [ej91] at h
                try dsimp only at h
                refine J_aload_n (i := 0) (q := 0) (pc1 := 138) dX7_receiveRequest_137 rfl rfl rfl ?_
                refine J_iconst (v := 1) (pc1 := 139) dX7_receiveRequest_138 (by decide) rfl ?_
                refine J_iload_n (i := 1) (q := 1) (pc1 := 140) dX7_receiveRequest_139 rfl rfl rfl ?_
                refine J_iload_n (i := 2) (q := 2) (pc1 := 141) dX7_receiveRequest_140 rfl rfl rfl ?_
                refine J_iconst (v := 0) (pc1 := 142) dX7_receiveRequest_141 (by decide) rfl ?_
                refine J_iload (i := 6) (q := 3) (pc1 := 144) dX7_receiveRequest_142 rfl rfl ?_
                obtain ⟨x92, e93, h⟩ := gLet_s h
                have k94 : JR p l e ({ frames := 3, cells := 0, slots := 0, locals := 67 } : Room) s m args below meth c cX7_receiveRequest 7 RX7 D tc sa ad sz (none) μ' μ90 152 [(0, .ref (ad 0 0)), (1, .int a1), (2, .int x1), (6, .int x86)] [.int x92, .int 0, .int x1, .int a1, .int 1, .ref (ad 0 0)] := by
                  obtain ⟨r97, μ98, hc96, h⟩ := gBd_s h
                  refine J_callV (As := [.int 1, .int a1, .int x1, .int 0, .int x92]) (ad := ad) (f := 0) (i := 0) (st := []) (st1 := [.int r97]) (pc1 := 155) (kX7_send l D tc sa ad hI 1 a1 x1 0 x92 μ90 r97 μ98 hc96) wcX7_send wlX7_95 eR0 rfl rfl rfl ⟨rfl, rfl, Nat.le_of_ble_eq_true rfl, Nat.le_of_ble_eq_true rfl⟩ ⟨Nat.zero_le _, Nat.zero_le _⟩ (Nat.le_of_ble_eq_true rfl) dX7_receiveRequest_152 rfl rfl ?_
                  refine J_pop (pc1 := 156) dX7_receiveRequest_155 rfl rfl ?_
                  cases h
                  exact J_vret hr hlk dX7_receiveRequest_156
                refine J_if_eq (tgt := 151) (pc1 := 147) dX7_receiveRequest_144 (by decide) (fun q95 => ?_) rfl (fun q95 => ?_)
                · rw [if_pos q95] at e93
                  subst e93
                  refine J_iconst (v := 0) (pc1 := 152) dX7_receiveRequest_151 (by decide) rfl ?_
                  exact k94
                · rw [if_neg q95] at e93
                  subst e93
                  refine J_iconst (v := 1) (pc1 := 148) dX7_receiveRequest_147 (by decide) rfl ?_
                  refine J_goto (tgt := 152) dX7_receiveRequest_148 (by decide) ?_
                  exact k94
              clear ej91
              refine J_if_eq (tgt := 137) (pc1 := 125) dX7_receiveRequest_122 (by decide) (fun q99 => ?_) rfl (fun q99 => ?_)
              · rw [if_pos q99] at h
                refine J_sub [3, 4, 5, 0] (lv1 := [(0, .ref (ad 0 0)), (1, .int a1), (2, .int x1), (6, .int x86)]) rfl ?_
                exact kj91 _ h
              · rw [if_neg q99] at h
                refine J_aload_n (i := 0) (q := 3) (pc1 := 126) dX7_receiveRequest_125 rfl rfl rfl ?_
                refine J_iload_n (i := 1) (q := 4) (pc1 := 127) dX7_receiveRequest_126 rfl rfl rfl ?_
                refine J_iconst (v := 3) (pc1 := 128) dX7_receiveRequest_127 (by decide) rfl ?_
                refine J_iload_n (i := 2) (q := 5) (pc1 := 129) dX7_receiveRequest_128 rfl rfl rfl ?_
                obtain ⟨μ101, hc100, h⟩ := gBp_s h
                refine J_callV (As := [.int a1, .int 3, .int x1]) (ad := ad) (f := 0) (i := 0) (st := []) (st1 := []) (pc1 := 132) (kX7_set l D tc sa ad hI a1 3 x1 μ μ101 hc100) wcX7_set wlX7_43 eR0 rfl rfl rfl ⟨rfl, rfl, Nat.le_of_ble_eq_true rfl, Nat.le_of_ble_eq_true rfl⟩ ⟨Nat.zero_le _, Nat.zero_le _⟩ (Nat.le_of_ble_eq_true rfl) dX7_receiveRequest_129 rfl rfl ?_
                refine J_aload_n (i := 0) (q := 3) (pc1 := 133) dX7_receiveRequest_132 rfl rfl rfl ?_
                refine J_iload_n (i := 1) (q := 4) (pc1 := 134) dX7_receiveRequest_133 rfl rfl rfl ?_
                obtain ⟨μ103, hc102, h⟩ := gBp_s h
                refine J_callV (As := [.int a1]) (ad := ad) (f := 0) (i := 0) (st := []) (st1 := []) (pc1 := 137) (kX7_resetTimer l D tc sa ad hI a1 μ101 μ103 hc102) wcX7_resetTimer wlX7_47 eR0 rfl rfl rfl ⟨rfl, rfl, Nat.le_of_ble_eq_true rfl, Nat.le_of_ble_eq_true rfl⟩ ⟨Nat.zero_le _, Nat.zero_le _⟩ (Nat.le_of_ble_eq_true rfl) dX7_receiveRequest_134 rfl rfl ?_
                refine J_sub [3, 4, 5, 0] (lv1 := [(0, .ref (ad 0 0)), (1, .int a1), (2, .int x1), (6, .int x86)]) rfl ?_
                exact kj91 _ h
            refine J_if_eq (tgt := 117) (pc1 := 113) dX7_receiveRequest_110 (by decide) (fun q89 => ?_) rfl (fun q89 => ?_)
            · rw [if_pos q89] at e87
              subst e87
              refine J_iconst (v := 0) (pc1 := 118) dX7_receiveRequest_117 (by decide) rfl ?_
              exact k88
            · rw [if_neg q89] at e87
              subst e87
              refine J_iconst (v := 1) (pc1 := 114) dX7_receiveRequest_113 (by decide) rfl ?_
              refine J_goto (tgt := 118) dX7_receiveRequest_114 (by decide) ?_
              exact k88
      refine J_icmp_ne (tgt := 85) (pc1 := 81) dX7_receiveRequest_78 (by decide) (fun q63 => ?_) rfl (fun q63 => ?_)
      · rw [if_neg q63] at e61
        subst e61
        refine J_iconst (v := 0) (pc1 := 86) dX7_receiveRequest_85 (by decide) rfl ?_
        exact k62
      · rw [if_pos q63] at e61
        subst e61
        refine J_iconst (v := 1) (pc1 := 82) dX7_receiveRequest_81 (by decide) rfl ?_
        refine J_goto (tgt := 86) dX7_receiveRequest_82 (by decide) ?_
        exact k62
  clear ej10
  obtain ⟨j104, ej104, h⟩ := gJon_s h
  have kj104 : ∀ (u105 : Unit), j104 u105 = some μ' → JR p l e ({ frames := 3, cells := 0, slots := 0, locals := 67 } : Room) s m args below meth c cX7_receiveRequest 7 RX7 D tc sa ad sz (none) μ' μ 54 [(0, .ref (ad 0 0)), (1, .int a1), (2, .int x1)] [] := by
    intro u105 h
    rw [ej104] at h
    try dsimp only at h
    refine J_iconst (v := 1) (pc1 := 55) dX7_receiveRequest_54 (by decide) rfl ?_
    refine J_goto (tgt := 59) dX7_receiveRequest_55 (by decide) ?_
    exact kj10 _ h
  clear ej104
  refine J_icmp_gt (tgt := 54) (pc1 := 29) dX7_receiveRequest_26 (by decide) (fun q106 => ?_) rfl (fun q106 => ?_)
  · rw [if_pos q106] at h
    refine J_sub [2, 3, 1] (lv1 := [(0, .ref (ad 0 0)), (1, .int a1), (2, .int x1)]) rfl ?_
    exact kj104 ()  h
  · rw [if_neg q106] at h
    refine J_aload_n (i := 0) (q := 2) (pc1 := 30) dX7_receiveRequest_29 rfl rfl rfl ?_
    refine J_getR (T := TX7) (f' := 4) (i' := 0) (pc1 := 33) eR0 rfl rfl inX7 4 (by decide) rfl rfl flX7_16 rfl dX7_receiveRequest_30 rfl ?_
    refine J_bipush (v := 6) (pc1 := 35) dX7_receiveRequest_33 (by decide) rfl ?_
    refine J_iald (ix := 6) (pc1 := 36) (by decide) eR4 rfl (by decide : inb 6 25) dX7_receiveRequest_35 rfl ?_
    refine J_iload_n (i := 3) (q := 0) (pc1 := 37) dX7_receiveRequest_36 rfl rfl rfl ?_
    obtain ⟨j107, ej107, h⟩ := gJon_s h
    have kj107 : ∀ (u108 : Unit), j107 u108 = some μ' → JR p l e ({ frames := 3, cells := 0, slots := 0, locals := 67 } : Room) s m args below meth c cX7_receiveRequest 7 RX7 D tc sa ad sz (none) μ' μ 58 [(0, .ref (ad 0 0)), (1, .int a1), (2, .int x1)] [] := by
      intro u108 h
      rw [ej107] at h
      try dsimp only at h
      refine J_iconst (v := 0) (pc1 := 59) dX7_receiveRequest_58 (by decide) rfl ?_
      exact kj10 _ h
    clear ej107
    refine J_icmp_ne (tgt := 58) (pc1 := 40) dX7_receiveRequest_37 (by decide) (fun q109 => ?_) rfl (fun q109 => ?_)
    · rw [if_neg q109] at h
      refine J_sub [2, 3, 1] (lv1 := [(0, .ref (ad 0 0)), (1, .int a1), (2, .int x1)]) rfl ?_
      exact kj107 ()  h
    · rw [if_pos q109] at h
      refine J_aload_n (i := 0) (q := 2) (pc1 := 41) dX7_receiveRequest_40 rfl rfl rfl ?_
      refine J_getR (T := TX7) (f' := 4) (i' := 0) (pc1 := 44) eR0 rfl rfl inX7 4 (by decide) rfl rfl flX7_16 rfl dX7_receiveRequest_41 rfl ?_
      refine J_iconst (v := 5) (pc1 := 45) dX7_receiveRequest_44 (by decide) rfl ?_
      refine J_iald (ix := 5) (pc1 := 46) (by decide) eR4 rfl (by decide : inb 5 25) dX7_receiveRequest_45 rfl ?_
      refine J_aload_n (i := 0) (q := 2) (pc1 := 47) dX7_receiveRequest_46 rfl rfl rfl ?_
      refine J_iload_n (i := 1) (q := 3) (pc1 := 48) dX7_receiveRequest_47 rfl rfl rfl ?_
      obtain ⟨r111, hc110, h⟩ := gBp_s h
      refine J_callV (As := [.int a1]) (ad := ad) (f := 0) (i := 0) (st := [.int (μ 4 0 5)]) (st1 := [.int r111, .int (μ 4 0 5)]) (pc1 := 51) (kX7_last l D tc sa ad hI a1 μ r111 hc110) wcX7_last wlX7_67 eR0 rfl rfl rfl ⟨rfl, rfl, Nat.le_of_ble_eq_true rfl, Nat.le_of_ble_eq_true rfl⟩ ⟨Nat.zero_le _, Nat.zero_le _⟩ (Nat.le_of_ble_eq_true rfl) dX7_receiveRequest_48 rfl rfl ?_
      obtain ⟨x112, e113, h⟩ := gLet_s h
      have k114 : JR p l e ({ frames := 3, cells := 0, slots := 0, locals := 67 } : Room) s m args below meth c cX7_receiveRequest 7 RX7 D tc sa ad sz (none) μ' μ 59 [(3, .int r8), (2, .int x1), (0, .ref (ad 0 0)), (1, .int a1)] [.int x112] := by
        refine J_istore (i := 4) (lv1 := [(4, .int x112), (3, .int r8), (2, .int x1), (0, .ref (ad 0 0)), (1, .int a1)]) (pc1 := 61) dX7_receiveRequest_59 (by decide) rfl rfl ?_
        refine J_aload_n (i := 0) (q := 3) (pc1 := 62) dX7_receiveRequest_61 rfl rfl rfl ?_
        refine J_iload_n (i := 1) (q := 4) (pc1 := 63) dX7_receiveRequest_62 rfl rfl rfl ?_
        refine J_iconst (v := 3) (pc1 := 64) dX7_receiveRequest_63 (by decide) rfl ?_
        obtain ⟨r117, hc116, h⟩ := gBp_s h
        refine J_callV (As := [.int a1, .int 3]) (ad := ad) (f := 0) (i := 0) (st := []) (st1 := [.int r117]) (pc1 := 67) (kX7_of l D tc sa ad hI a1 3 μ r117 hc116) wcX7_of wlX7_38 eR0 rfl rfl rfl ⟨rfl, rfl, Nat.le_of_ble_eq_true rfl, Nat.le_of_ble_eq_true rfl⟩ ⟨Nat.zero_le _, Nat.zero_le _⟩ (Nat.le_of_ble_eq_true rfl) dX7_receiveRequest_64 rfl rfl ?_
        refine J_iconst (v := (-1)) (pc1 := 68) dX7_receiveRequest_67 (by decide) rfl ?_
        obtain ⟨j119, ej119, h⟩ := gJon_s h
        have kj119 : ∀ (x118 : Int32), j119 x118 = some μ' → JR p l e ({ frames := 3, cells := 0, slots := 0, locals := 67 } : Room) s m args below meth c cX7_receiveRequest 7 RX7 D tc sa ad sz (none) μ' μ 86 [(0, .ref (ad 0 0)), (1, .int a1), (2, .int x1), (4, .int x112)] [.int x118] := by
          intro x118 h
          rw [ej119] at h
          try dsimp only at h
          refine J_istore (i := 5) (lv1 := [(5, .int x118), (0, .ref (ad 0 0)), (1, .int a1), (2, .int x1), (4, .int x112)]) (pc1 := 88) dX7_receiveRequest_86 (by decide) rfl rfl ?_
          refine J_aload_n (i := 0) (q := 1) (pc1 := 89) dX7_receiveRequest_88 rfl rfl rfl ?_
          refine J_getR (T := TX7) (f' := 4) (i' := 0) (pc1 := 92) eR0 rfl rfl inX7 4 (by decide) rfl rfl flX7_16 rfl dX7_receiveRequest_89 rfl ?_
          refine J_iconst (v := 3) (pc1 := 93) dX7_receiveRequest_92 (by decide) rfl ?_
          refine J_iald (ix := 3) (pc1 := 94) (by decide) eR4 rfl (by decide : inb 3 25) dX7_receiveRequest_93 rfl ?_
          refine J_aload_n (i := 0) (q := 1) (pc1 := 95) dX7_receiveRequest_94 rfl rfl rfl ?_
          refine J_iload_n (i := 1) (q := 2) (pc1 := 96) dX7_receiveRequest_95 rfl rfl rfl ?_
          refine J_iconst (v := 2) (pc1 := 97) dX7_receiveRequest_96 (by decide) rfl ?_
          obtain ⟨r121, hc120, h⟩ := gBp_s h
          refine J_callV (As := [.int a1, .int 2]) (ad := ad) (f := 0) (i := 0) (st := [.int (μ 4 0 3)]) (st1 := [.int r121, .int (μ 4 0 3)]) (pc1 := 100) (kX7_of l D tc sa ad hI a1 2 μ r121 hc120) wcX7_of wlX7_38 eR0 rfl rfl rfl ⟨rfl, rfl, Nat.le_of_ble_eq_true rfl, Nat.le_of_ble_eq_true rfl⟩ ⟨Nat.zero_le _, Nat.zero_le _⟩ (Nat.le_of_ble_eq_true rfl) dX7_receiveRequest_97 rfl rfl ?_
          obtain ⟨j123, ej123, h⟩ := gJon_s h
          have kj123 : ∀ (x122 : Int32), j123 x122 = some μ' → JR p l e ({ frames := 3, cells := 0, slots := 0, locals := 67 } : Room) s m args below meth c cX7_receiveRequest 7 RX7 D tc sa ad sz (none) μ' μ 118 [(0, .ref (ad 0 0)), (1, .int a1), (2, .int x1)] [.int x122] := by
            intro x122 h
            rw [ej123] at h
            try dsimp only at h
            refine J_istore (i := 6) (lv1 := [(6, .int x122), (0, .ref (ad 0 0)), (1, .int a1), (2, .int x1)]) (pc1 := 120) dX7_receiveRequest_118 (by decide) rfl rfl ?_
            refine J_iload (i := 6) (q := 0) (pc1 := 122) dX7_receiveRequest_120 rfl rfl ?_
            obtain ⟨j125, ej125, h⟩ := gJon_s h
            have kj125 : ∀ (μ124 : gM), j125 μ124 = some μ' → JR p l e ({ frames := 3, cells := 0, slots := 0, locals := 67 } : Room) s m args below meth c cX7_receiveRequest 7 RX7 D tc sa ad sz (none) μ' μ124 137 [(0, .ref (ad 0 0)), (1, .int a1), (2, .int x1), (6, .int x122)] [] := by
              intro μ124 h
              rw [ej125] at h
              try dsimp only at h
              refine J_aload_n (i := 0) (q := 0) (pc1 := 138) dX7_receiveRequest_137 rfl rfl rfl ?_
              refine J_iconst (v := 1) (pc1 := 139) dX7_receiveRequest_138 (by decide) rfl ?_
              refine J_iload_n (i := 1) (q := 1) (pc1 := 140) dX7_receiveRequest_139 rfl rfl rfl ?_
              refine J_iload_n (i := 2) (q := 2) (pc1 := 141) dX7_receiveRequest_140 rfl rfl rfl ?_
              refine J_iconst (v := 0) (pc1 := 142) dX7_receiveRequest_141 (by decide) rfl ?_
              refine J_iload (i := 6) (q := 3) (pc1 := 144) dX7_receiveRequest_142 rfl rfl ?_
              obtain ⟨x126, e127, h⟩ := gLet_s h
              have k128 : JR p l e ({ frames := 3, cells := 0, slots := 0, locals := 67 } : Room) s m args below meth c cX7_receiveRequest 7 RX7 D tc sa ad sz (none) μ' μ124 152 [(0, .ref (ad 0 0)), (1, .int a1), (2, .int x1), (6, .int x122)] [.int x126, .int 0, .int x1, .int a1, .int 1, .ref (ad 0 0)] := by
                obtain ⟨r131, μ132, hc130, h⟩ := gBd_s h
                refine J_callV (As := [.int 1, .int a1, .int x1, .int 0, .int x126]) (ad := ad) (f := 0) (i := 0) (st := []) (st1 := [.int r131]) (pc1 := 155) (kX7_send l D tc sa ad hI 1 a1 x1 0 x126 μ124 r131 μ132 hc130) wcX7_send wlX7_95 eR0 rfl rfl rfl ⟨rfl, rfl, Nat.le_of_ble_eq_true rfl, Nat.le_of_ble_eq_true rfl⟩ ⟨Nat.zero_le _, Nat.zero_le _⟩ (Nat.le_of_ble_eq_true rfl) dX7_receiveRequest_152 rfl rfl ?_
                refine J_pop (pc1 := 156) dX7_receiveRequest_155 rfl rfl ?_
                cases h
                exact J_vret hr hlk dX7_receiveRequest_156
              refine J_if_eq (tgt := 151) (pc1 := 147) dX7_receiveRequest_144 (by decide) (fun q129 => ?_) rfl (fun q129 => ?_)
              · rw [if_pos q129] at e127
                subst e127
                refine J_iconst (v := 0) (pc1 := 152) dX7_receiveRequest_151 (by decide) rfl ?_
                exact k128
              · rw [if_neg q129] at e127
                subst e127
                refine J_iconst (v := 1) (pc1 := 148) dX7_receiveRequest_147 (by decide) rfl ?_
                refine J_goto (tgt := 152) dX7_receiveRequest_148 (by decide) ?_
                exact k128
            clear ej125
            refine J_if_eq (tgt := 137) (pc1 := 125) dX7_receiveRequest_122 (by decide) (fun q133 => ?_) rfl (fun q133 => ?_)
            · rw [if_pos q133] at h
              refine J_sub [1, 2, 3, 0] (lv1 := [(0, .ref (ad 0 0)), (1, .int a1), (2, .int x1), (6, .int x122)]) rfl ?_
              exact kj125 _ h
            · rw [if_neg q133] at h
              refine J_aload_n (i := 0) (q := 1) (pc1 := 126) dX7_receiveRequest_125 rfl rfl rfl ?_
              refine J_iload_n (i := 1) (q := 2) (pc1 := 127) dX7_receiveRequest_126 rfl rfl rfl ?_
              refine J_iconst (v := 3) (pc1 := 128) dX7_receiveRequest_127 (by decide) rfl ?_
              refine J_iload_n (i := 2) (q := 3) (pc1 := 129) dX7_receiveRequest_128 rfl rfl rfl ?_
              obtain ⟨μ135, hc134, h⟩ := gBp_s h
              refine J_callV (As := [.int a1, .int 3, .int x1]) (ad := ad) (f := 0) (i := 0) (st := []) (st1 := []) (pc1 := 132) (kX7_set l D tc sa ad hI a1 3 x1 μ μ135 hc134) wcX7_set wlX7_43 eR0 rfl rfl rfl ⟨rfl, rfl, Nat.le_of_ble_eq_true rfl, Nat.le_of_ble_eq_true rfl⟩ ⟨Nat.zero_le _, Nat.zero_le _⟩ (Nat.le_of_ble_eq_true rfl) dX7_receiveRequest_129 rfl rfl ?_
              refine J_aload_n (i := 0) (q := 1) (pc1 := 133) dX7_receiveRequest_132 rfl rfl rfl ?_
              refine J_iload_n (i := 1) (q := 2) (pc1 := 134) dX7_receiveRequest_133 rfl rfl rfl ?_
              obtain ⟨μ137, hc136, h⟩ := gBp_s h
              refine J_callV (As := [.int a1]) (ad := ad) (f := 0) (i := 0) (st := []) (st1 := []) (pc1 := 137) (kX7_resetTimer l D tc sa ad hI a1 μ135 μ137 hc136) wcX7_resetTimer wlX7_47 eR0 rfl rfl rfl ⟨rfl, rfl, Nat.le_of_ble_eq_true rfl, Nat.le_of_ble_eq_true rfl⟩ ⟨Nat.zero_le _, Nat.zero_le _⟩ (Nat.le_of_ble_eq_true rfl) dX7_receiveRequest_134 rfl rfl ?_
              refine J_sub [1, 2, 3, 0] (lv1 := [(0, .ref (ad 0 0)), (1, .int a1), (2, .int x1), (6, .int x122)]) rfl ?_
              exact kj125 _ h
          clear ej123
          obtain ⟨j138, ej138, h⟩ := gJon_s h
          have kj138 : ∀ (u139 : Unit), j138 u139 = some μ' → JR p l e ({ frames := 3, cells := 0, slots := 0, locals := 67 } : Room) s m args below meth c cX7_receiveRequest 7 RX7 D tc sa ad sz (none) μ' μ 117 [(0, .ref (ad 0 0)), (1, .int a1), (2, .int x1)] [] := by
            intro u139 h
            rw [ej138] at h
            try dsimp only at h
            refine J_iconst (v := 0) (pc1 := 118) dX7_receiveRequest_117 (by decide) rfl ?_
            exact kj123 _ h
          clear ej138
          refine J_icmp_ne (tgt := 117) (pc1 := 103) dX7_receiveRequest_100 (by decide) (fun q140 => ?_) rfl (fun q140 => ?_)
          · rw [if_neg q140] at h
            refine J_sub [1, 2, 3] (lv1 := [(0, .ref (ad 0 0)), (1, .int a1), (2, .int x1)]) rfl ?_
            exact kj138 ()  h
          · rw [if_pos q140] at h
            refine J_iload (i := 5) (q := 0) (pc1 := 105) dX7_receiveRequest_103 rfl rfl ?_
            refine J_if_eq (tgt := 117) (pc1 := 108) dX7_receiveRequest_105 (by decide) (fun q141 => ?_) rfl (fun q141 => ?_)
            · rw [if_pos q141] at h
              refine J_sub [1, 2, 3] (lv1 := [(0, .ref (ad 0 0)), (1, .int a1), (2, .int x1)]) rfl ?_
              exact kj138 ()  h
            · rw [if_neg q141] at h
              refine J_iload (i := 4) (q := 4) (pc1 := 110) dX7_receiveRequest_108 rfl rfl ?_
              obtain ⟨x142, e143, h⟩ := gLet_s h
              have k144 : JR p l e ({ frames := 3, cells := 0, slots := 0, locals := 67 } : Room) s m args below meth c cX7_receiveRequest 7 RX7 D tc sa ad sz (none) μ' μ 118 [(5, .int x118), (0, .ref (ad 0 0)), (1, .int a1), (2, .int x1), (4, .int x112)] [.int x142] := by
                refine J_istore (i := 6) (lv1 := [(6, .int x142), (5, .int x118), (0, .ref (ad 0 0)), (1, .int a1), (2, .int x1), (4, .int x112)]) (pc1 := 120) dX7_receiveRequest_118 (by decide) rfl rfl ?_
                refine J_iload (i := 6) (q := 0) (pc1 := 122) dX7_receiveRequest_120 rfl rfl ?_
                obtain ⟨j147, ej147, h⟩ := gJon_s h
                have kj147 : ∀ (μ146 : gM), j147 μ146 = some μ' → JR p l e ({ frames := 3, cells := 0, slots := 0, locals := 67 } : Room) s m args below meth c cX7_receiveRequest 7 RX7 D tc sa ad sz (none) μ' μ146 137 [(0, .ref (ad 0 0)), (1, .int a1), (2, .int x1), (6, .int x142)] [] := by
                  intro μ146 h
                  rw [ej147] at h
                  try dsimp only at h
                  refine J_aload_n (i := 0) (q := 0) (pc1 := 138) dX7_receiveRequest_137 rfl rfl rfl ?_
                  refine J_iconst (v := 1) (pc1 := 139) dX7_receiveRequest_138 (by decide) rfl ?_
                  refine J_iload_n (i := 1) (q := 1) (pc1 := 140) dX7_receiveRequest_139 rfl rfl rfl ?_
                  refine J_iload_n (i := 2) (q := 2) (pc1 := 141) dX7_receiveRequest_140 rfl rfl rfl ?_
                  refine J_iconst (v := 0) (pc1 := 142) dX7_receiveRequest_141 (by decide) rfl ?_
                  refine J_iload (i := 6) (q := 3) (pc1 := 144) dX7_receiveRequest_142 rfl rfl ?_
                  obtain ⟨x148, e149, h⟩ := gLet_s h
                  have k150 : JR p l e ({ frames := 3, cells := 0, slots := 0, locals := 67 } : Room) s m args below meth c cX7_receiveRequest 7 RX7 D tc sa ad sz (none) μ' μ146 152 [(0, .ref (ad 0 0)), (1, .int a1), (2, .int x1), (6, .int x142)] [.int x148, .int 0, .int x1, .int a1, .int 1, .ref (ad 0 0)] := by
                    obtain ⟨r153, μ154, hc152, h⟩ := gBd_s h
                    refine J_callV (As := [.int 1, .int a1, .int x1, .int 0, .int x148]) (ad := ad) (f := 0) (i := 0) (st := []) (st1 := [.int r153]) (pc1 := 155) (kX7_send l D tc sa ad hI 1 a1 x1 0 x148 μ146 r153 μ154 hc152) wcX7_send wlX7_95 eR0 rfl rfl rfl ⟨rfl, rfl, Nat.le_of_ble_eq_true rfl, Nat.le_of_ble_eq_true rfl⟩ ⟨Nat.zero_le _, Nat.zero_le _⟩ (Nat.le_of_ble_eq_true rfl) dX7_receiveRequest_152 rfl rfl ?_
                    refine J_pop (pc1 := 156) dX7_receiveRequest_155 rfl rfl ?_
                    cases h
                    exact J_vret hr hlk dX7_receiveRequest_156
                  refine J_if_eq (tgt := 151) (pc1 := 147) dX7_receiveRequest_144 (by decide) (fun q151 => ?_) rfl (fun q151 => ?_)
                  · rw [if_pos q151] at e149
                    subst e149
                    refine J_iconst (v := 0) (pc1 := 152) dX7_receiveRequest_151 (by decide) rfl ?_
                    exact k150
                  · rw [if_neg q151] at e149
                    subst e149
                    refine J_iconst (v := 1) (pc1 := 148) dX7_receiveRequest_147 (by decide) rfl ?_
                    refine J_goto (tgt := 152) dX7_receiveRequest_148 (by decide) ?_
                    exact k150
                clear ej147
                refine J_if_eq (tgt := 137) (pc1 := 125) dX7_receiveRequest_122 (by decide) (fun q155 => ?_) rfl (fun q155 => ?_)
                · rw [if_pos q155] at h
                  refine J_sub [2, 3, 4, 0] (lv1 := [(0, .ref (ad 0 0)), (1, .int a1), (2, .int x1), (6, .int x142)]) rfl ?_
                  exact kj147 _ h
                · rw [if_neg q155] at h
                  refine J_aload_n (i := 0) (q := 2) (pc1 := 126) dX7_receiveRequest_125 rfl rfl rfl ?_
                  refine J_iload_n (i := 1) (q := 3) (pc1 := 127) dX7_receiveRequest_126 rfl rfl rfl ?_
                  refine J_iconst (v := 3) (pc1 := 128) dX7_receiveRequest_127 (by decide) rfl ?_
                  refine J_iload_n (i := 2) (q := 4) (pc1 := 129) dX7_receiveRequest_128 rfl rfl rfl ?_
                  obtain ⟨μ157, hc156, h⟩ := gBp_s h
                  refine J_callV (As := [.int a1, .int 3, .int x1]) (ad := ad) (f := 0) (i := 0) (st := []) (st1 := []) (pc1 := 132) (kX7_set l D tc sa ad hI a1 3 x1 μ μ157 hc156) wcX7_set wlX7_43 eR0 rfl rfl rfl ⟨rfl, rfl, Nat.le_of_ble_eq_true rfl, Nat.le_of_ble_eq_true rfl⟩ ⟨Nat.zero_le _, Nat.zero_le _⟩ (Nat.le_of_ble_eq_true rfl) dX7_receiveRequest_129 rfl rfl ?_
                  refine J_aload_n (i := 0) (q := 2) (pc1 := 133) dX7_receiveRequest_132 rfl rfl rfl ?_
                  refine J_iload_n (i := 1) (q := 3) (pc1 := 134) dX7_receiveRequest_133 rfl rfl rfl ?_
                  obtain ⟨μ159, hc158, h⟩ := gBp_s h
                  refine J_callV (As := [.int a1]) (ad := ad) (f := 0) (i := 0) (st := []) (st1 := []) (pc1 := 137) (kX7_resetTimer l D tc sa ad hI a1 μ157 μ159 hc158) wcX7_resetTimer wlX7_47 eR0 rfl rfl rfl ⟨rfl, rfl, Nat.le_of_ble_eq_true rfl, Nat.le_of_ble_eq_true rfl⟩ ⟨Nat.zero_le _, Nat.zero_le _⟩ (Nat.le_of_ble_eq_true rfl) dX7_receiveRequest_134 rfl rfl ?_
                  refine J_sub [2, 3, 4, 0] (lv1 := [(0, .ref (ad 0 0)), (1, .int a1), (2, .int x1), (6, .int x142)]) rfl ?_
                  exact kj147 _ h
              refine J_if_eq (tgt := 117) (pc1 := 113) dX7_receiveRequest_110 (by decide) (fun q145 => ?_) rfl (fun q145 => ?_)
              · rw [if_pos q145] at e143
                subst e143
                refine J_iconst (v := 0) (pc1 := 118) dX7_receiveRequest_117 (by decide) rfl ?_
                exact k144
              · rw [if_neg q145] at e143
                subst e143
                refine J_iconst (v := 1) (pc1 := 114) dX7_receiveRequest_113 (by decide) rfl ?_
                refine J_goto (tgt := 118) dX7_receiveRequest_114 (by decide) ?_
                exact k144
        clear ej119
        obtain ⟨j160, ej160, h⟩ := gJon_s h
        have kj160 : ∀ (u161 : Unit), j160 u161 = some μ' → JR p l e ({ frames := 3, cells := 0, slots := 0, locals := 67 } : Room) s m args below meth c cX7_receiveRequest 7 RX7 D tc sa ad sz (none) μ' μ 81 [(0, .ref (ad 0 0)), (1, .int a1), (2, .int x1), (4, .int x112)] [] := by
          intro u161 h
          rw [ej160] at h
          try dsimp only at h
          refine J_iconst (v := 1) (pc1 := 82) dX7_receiveRequest_81 (by decide) rfl ?_
          refine J_goto (tgt := 86) dX7_receiveRequest_82 (by decide) ?_
          exact kj119 _ h
        clear ej160
        refine J_icmp_eq (tgt := 81) (pc1 := 71) dX7_receiveRequest_68 (by decide) (fun q162 => ?_) rfl (fun q162 => ?_)
        · rw [if_pos q162] at h
          refine J_sub [3, 4, 2, 0] (lv1 := [(0, .ref (ad 0 0)), (1, .int a1), (2, .int x1), (4, .int x112)]) rfl ?_
          exact kj160 ()  h
        · rw [if_neg q162] at h
          refine J_aload_n (i := 0) (q := 3) (pc1 := 72) dX7_receiveRequest_71 rfl rfl rfl ?_
          refine J_iload_n (i := 1) (q := 4) (pc1 := 73) dX7_receiveRequest_72 rfl rfl rfl ?_
          refine J_iconst (v := 3) (pc1 := 74) dX7_receiveRequest_73 (by decide) rfl ?_
          obtain ⟨r164, hc163, h⟩ := gBp_s h
          refine J_callV (As := [.int a1, .int 3]) (ad := ad) (f := 0) (i := 0) (st := []) (st1 := [.int r164]) (pc1 := 77) (kX7_of l D tc sa ad hI a1 3 μ r164 hc163) wcX7_of wlX7_38 eR0 rfl rfl rfl ⟨rfl, rfl, Nat.le_of_ble_eq_true rfl, Nat.le_of_ble_eq_true rfl⟩ ⟨Nat.zero_le _, Nat.zero_le _⟩ (Nat.le_of_ble_eq_true rfl) dX7_receiveRequest_74 rfl rfl ?_
          refine J_iload_n (i := 2) (q := 2) (pc1 := 78) dX7_receiveRequest_77 rfl rfl rfl ?_
          obtain ⟨x165, e166, h⟩ := gLet_s h
          have k167 : JR p l e ({ frames := 3, cells := 0, slots := 0, locals := 67 } : Room) s m args below meth c cX7_receiveRequest 7 RX7 D tc sa ad sz (none) μ' μ 86 [(4, .int x112), (3, .int r8), (2, .int x1), (0, .ref (ad 0 0)), (1, .int a1)] [.int x165] := by
            refine J_istore (i := 5) (lv1 := [(5, .int x165), (4, .int x112), (3, .int r8), (2, .int x1), (0, .ref (ad 0 0)), (1, .int a1)]) (pc1 := 88) dX7_receiveRequest_86 (by decide) rfl rfl ?_
            refine J_aload_n (i := 0) (q := 4) (pc1 := 89) dX7_receiveRequest_88 rfl rfl rfl ?_
            refine J_getR (T := TX7) (f' := 4) (i' := 0) (pc1 := 92) eR0 rfl rfl inX7 4 (by decide) rfl rfl flX7_16 rfl dX7_receiveRequest_89 rfl ?_
            refine J_iconst (v := 3) (pc1 := 93) dX7_receiveRequest_92 (by decide) rfl ?_
            refine J_iald (ix := 3) (pc1 := 94) (by decide) eR4 rfl (by decide : inb 3 25) dX7_receiveRequest_93 rfl ?_
            refine J_aload_n (i := 0) (q := 4) (pc1 := 95) dX7_receiveRequest_94 rfl rfl rfl ?_
            refine J_iload_n (i := 1) (q := 5) (pc1 := 96) dX7_receiveRequest_95 rfl rfl rfl ?_
            refine J_iconst (v := 2) (pc1 := 97) dX7_receiveRequest_96 (by decide) rfl ?_
            obtain ⟨r170, hc169, h⟩ := gBp_s h
            refine J_callV (As := [.int a1, .int 2]) (ad := ad) (f := 0) (i := 0) (st := [.int (μ 4 0 3)]) (st1 := [.int r170, .int (μ 4 0 3)]) (pc1 := 100) (kX7_of l D tc sa ad hI a1 2 μ r170 hc169) wcX7_of wlX7_38 eR0 rfl rfl rfl ⟨rfl, rfl, Nat.le_of_ble_eq_true rfl, Nat.le_of_ble_eq_true rfl⟩ ⟨Nat.zero_le _, Nat.zero_le _⟩ (Nat.le_of_ble_eq_true rfl) dX7_receiveRequest_97 rfl rfl ?_
            obtain ⟨j172, ej172, h⟩ := gJon_s h
            have kj172 : ∀ (x171 : Int32), j172 x171 = some μ' → JR p l e ({ frames := 3, cells := 0, slots := 0, locals := 67 } : Room) s m args below meth c cX7_receiveRequest 7 RX7 D tc sa ad sz (none) μ' μ 118 [(0, .ref (ad 0 0)), (1, .int a1), (2, .int x1)] [.int x171] := by
              intro x171 h
              rw [ej172] at h
              try dsimp only at h
              refine J_istore (i := 6) (lv1 := [(6, .int x171), (0, .ref (ad 0 0)), (1, .int a1), (2, .int x1)]) (pc1 := 120) dX7_receiveRequest_118 (by decide) rfl rfl ?_
              refine J_iload (i := 6) (q := 0) (pc1 := 122) dX7_receiveRequest_120 rfl rfl ?_
              obtain ⟨j174, ej174, h⟩ := gJon_s h
              have kj174 : ∀ (μ173 : gM), j174 μ173 = some μ' → JR p l e ({ frames := 3, cells := 0, slots := 0, locals := 67 } : Room) s m args below meth c cX7_receiveRequest 7 RX7 D tc sa ad sz (none) μ' μ173 137 [(0, .ref (ad 0 0)), (1, .int a1), (2, .int x1), (6, .int x171)] [] := by
                intro μ173 h
                rw [ej174] at h
                try dsimp only at h
                refine J_aload_n (i := 0) (q := 0) (pc1 := 138) dX7_receiveRequest_137 rfl rfl rfl ?_
                refine J_iconst (v := 1) (pc1 := 139) dX7_receiveRequest_138 (by decide) rfl ?_
                refine J_iload_n (i := 1) (q := 1) (pc1 := 140) dX7_receiveRequest_139 rfl rfl rfl ?_
                refine J_iload_n (i := 2) (q := 2) (pc1 := 141) dX7_receiveRequest_140 rfl rfl rfl ?_
                refine J_iconst (v := 0) (pc1 := 142) dX7_receiveRequest_141 (by decide) rfl ?_
                refine J_iload (i := 6) (q := 3) (pc1 := 144) dX7_receiveRequest_142 rfl rfl ?_
                obtain ⟨x175, e176, h⟩ := gLet_s h
                have k177 : JR p l e ({ frames := 3, cells := 0, slots := 0, locals := 67 } : Room) s m args below meth c cX7_receiveRequest 7 RX7 D tc sa ad sz (none) μ' μ173 152 [(0, .ref (ad 0 0)), (1, .int a1), (2, .int x1), (6, .int x171)] [.int x175, .int 0, .int x1, .int a1, .int 1, .ref (ad 0 0)] := by
                  obtain ⟨r180, μ181, hc179, h⟩ := gBd_s h
                  refine J_callV (As := [.int 1, .int a1, .int x1, .int 0, .int x175]) (ad := ad) (f := 0) (i := 0) (st := []) (st1 := [.int r180]) (pc1 := 155) (kX7_send l D tc sa ad hI 1 a1 x1 0 x175 μ173 r180 μ181 hc179) wcX7_send wlX7_95 eR0 rfl rfl rfl ⟨rfl, rfl, Nat.le_of_ble_eq_true rfl, Nat.le_of_ble_eq_true rfl⟩ ⟨Nat.zero_le _, Nat.zero_le _⟩ (Nat.le_of_ble_eq_true rfl) dX7_receiveRequest_152 rfl rfl ?_
                  refine J_pop (pc1 := 156) dX7_receiveRequest_155 rfl rfl ?_
                  cases h
                  exact J_vret hr hlk dX7_receiveRequest_156
                refine J_if_eq (tgt := 151) (pc1 := 147) dX7_receiveRequest_144 (by decide) (fun q178 => ?_) rfl (fun q178 => ?_)
                · rw [if_pos q178] at e176
                  subst e176
                  refine J_iconst (v := 0) (pc1 := 152) dX7_receiveRequest_151 (by decide) rfl ?_
                  exact k177
                · rw [if_neg q178] at e176
                  subst e176
                  refine J_iconst (v := 1) (pc1 := 148) dX7_receiveRequest_147 (by decide) rfl ?_
                  refine J_goto (tgt := 152) dX7_receiveRequest_148 (by decide) ?_
                  exact k177
              clear ej174
              refine J_if_eq (tgt := 137) (pc1 := 125) dX7_receiveRequest_122 (by decide) (fun q182 => ?_) rfl (fun q182 => ?_)
              · rw [if_pos q182] at h
                refine J_sub [1, 2, 3, 0] (lv1 := [(0, .ref (ad 0 0)), (1, .int a1), (2, .int x1), (6, .int x171)]) rfl ?_
                exact kj174 _ h
              · rw [if_neg q182] at h
                refine J_aload_n (i := 0) (q := 1) (pc1 := 126) dX7_receiveRequest_125 rfl rfl rfl ?_
                refine J_iload_n (i := 1) (q := 2) (pc1 := 127) dX7_receiveRequest_126 rfl rfl rfl ?_
                refine J_iconst (v := 3) (pc1 := 128) dX7_receiveRequest_127 (by decide) rfl ?_
                refine J_iload_n (i := 2) (q := 3) (pc1 := 129) dX7_receiveRequest_128 rfl rfl rfl ?_
                obtain ⟨μ184, hc183, h⟩ := gBp_s h
                refine J_callV (As := [.int a1, .int 3, .int x1]) (ad := ad) (f := 0) (i := 0) (st := []) (st1 := []) (pc1 := 132) (kX7_set l D tc sa ad hI a1 3 x1 μ μ184 hc183) wcX7_set wlX7_43 eR0 rfl rfl rfl ⟨rfl, rfl, Nat.le_of_ble_eq_true rfl, Nat.le_of_ble_eq_true rfl⟩ ⟨Nat.zero_le _, Nat.zero_le _⟩ (Nat.le_of_ble_eq_true rfl) dX7_receiveRequest_129 rfl rfl ?_
                refine J_aload_n (i := 0) (q := 1) (pc1 := 133) dX7_receiveRequest_132 rfl rfl rfl ?_
                refine J_iload_n (i := 1) (q := 2) (pc1 := 134) dX7_receiveRequest_133 rfl rfl rfl ?_
                obtain ⟨μ186, hc185, h⟩ := gBp_s h
                refine J_callV (As := [.int a1]) (ad := ad) (f := 0) (i := 0) (st := []) (st1 := []) (pc1 := 137) (kX7_resetTimer l D tc sa ad hI a1 μ184 μ186 hc185) wcX7_resetTimer wlX7_47 eR0 rfl rfl rfl ⟨rfl, rfl, Nat.le_of_ble_eq_true rfl, Nat.le_of_ble_eq_true rfl⟩ ⟨Nat.zero_le _, Nat.zero_le _⟩ (Nat.le_of_ble_eq_true rfl) dX7_receiveRequest_134 rfl rfl ?_
                refine J_sub [1, 2, 3, 0] (lv1 := [(0, .ref (ad 0 0)), (1, .int a1), (2, .int x1), (6, .int x171)]) rfl ?_
                exact kj174 _ h
            clear ej172
            obtain ⟨j187, ej187, h⟩ := gJon_s h
            have kj187 : ∀ (u188 : Unit), j187 u188 = some μ' → JR p l e ({ frames := 3, cells := 0, slots := 0, locals := 67 } : Room) s m args below meth c cX7_receiveRequest 7 RX7 D tc sa ad sz (none) μ' μ 117 [(0, .ref (ad 0 0)), (1, .int a1), (2, .int x1)] [] := by
              intro u188 h
              rw [ej187] at h
              try dsimp only at h
              refine J_iconst (v := 0) (pc1 := 118) dX7_receiveRequest_117 (by decide) rfl ?_
              exact kj172 _ h
            clear ej187
            refine J_icmp_ne (tgt := 117) (pc1 := 103) dX7_receiveRequest_100 (by decide) (fun q189 => ?_) rfl (fun q189 => ?_)
            · rw [if_neg q189] at h
              refine J_sub [4, 5, 3] (lv1 := [(0, .ref (ad 0 0)), (1, .int a1), (2, .int x1)]) rfl ?_
              exact kj187 ()  h
            · rw [if_pos q189] at h
              refine J_iload (i := 5) (q := 0) (pc1 := 105) dX7_receiveRequest_103 rfl rfl ?_
              refine J_if_eq (tgt := 117) (pc1 := 108) dX7_receiveRequest_105 (by decide) (fun q190 => ?_) rfl (fun q190 => ?_)
              · rw [if_pos q190] at h
                refine J_sub [4, 5, 3] (lv1 := [(0, .ref (ad 0 0)), (1, .int a1), (2, .int x1)]) rfl ?_
                exact kj187 ()  h
              · rw [if_neg q190] at h
                refine J_iload (i := 4) (q := 1) (pc1 := 110) dX7_receiveRequest_108 rfl rfl ?_
                obtain ⟨x191, e192, h⟩ := gLet_s h
                have k193 : JR p l e ({ frames := 3, cells := 0, slots := 0, locals := 67 } : Room) s m args below meth c cX7_receiveRequest 7 RX7 D tc sa ad sz (none) μ' μ 118 [(5, .int x165), (4, .int x112), (3, .int r8), (2, .int x1), (0, .ref (ad 0 0)), (1, .int a1)] [.int x191] := by
                  refine J_istore (i := 6) (lv1 := [(6, .int x191), (5, .int x165), (4, .int x112), (3, .int r8), (2, .int x1), (0, .ref (ad 0 0)), (1, .int a1)]) (pc1 := 120) dX7_receiveRequest_118 (by decide) rfl rfl ?_
                  refine J_iload (i := 6) (q := 0) (pc1 := 122) dX7_receiveRequest_120 rfl rfl ?_
                  obtain ⟨j196, ej196, h⟩ := gJon_s h
                  have kj196 : ∀ (μ195 : gM), j196 μ195 = some μ' → JR p l e ({ frames := 3, cells := 0, slots := 0, locals := 67 } : Room) s m args below meth c cX7_receiveRequest 7 RX7 D tc sa ad sz (none) μ' μ195 137 [(0, .ref (ad 0 0)), (1, .int a1), (2, .int x1), (6, .int x191)] [] := by
                    intro μ195 h
                    rw [ej196] at h
                    try dsimp only at h
                    refine J_aload_n (i := 0) (q := 0) (pc1 := 138) dX7_receiveRequest_137 rfl rfl rfl ?_
                    refine J_iconst (v := 1) (pc1 := 139) dX7_receiveRequest_138 (by decide) rfl ?_
                    refine J_iload_n (i := 1) (q := 1) (pc1 := 140) dX7_receiveRequest_139 rfl rfl rfl ?_
                    refine J_iload_n (i := 2) (q := 2) (pc1 := 141) dX7_receiveRequest_140 rfl rfl rfl ?_
                    refine J_iconst (v := 0) (pc1 := 142) dX7_receiveRequest_141 (by decide) rfl ?_
                    refine J_iload (i := 6) (q := 3) (pc1 := 144) dX7_receiveRequest_142 rfl rfl ?_
                    obtain ⟨x197, e198, h⟩ := gLet_s h
                    have k199 : JR p l e ({ frames := 3, cells := 0, slots := 0, locals := 67 } : Room) s m args below meth c cX7_receiveRequest 7 RX7 D tc sa ad sz (none) μ' μ195 152 [(0, .ref (ad 0 0)), (1, .int a1), (2, .int x1), (6, .int x191)] [.int x197, .int 0, .int x1, .int a1, .int 1, .ref (ad 0 0)] := by
                      obtain ⟨r202, μ203, hc201, h⟩ := gBd_s h
                      refine J_callV (As := [.int 1, .int a1, .int x1, .int 0, .int x197]) (ad := ad) (f := 0) (i := 0) (st := []) (st1 := [.int r202]) (pc1 := 155) (kX7_send l D tc sa ad hI 1 a1 x1 0 x197 μ195 r202 μ203 hc201) wcX7_send wlX7_95 eR0 rfl rfl rfl ⟨rfl, rfl, Nat.le_of_ble_eq_true rfl, Nat.le_of_ble_eq_true rfl⟩ ⟨Nat.zero_le _, Nat.zero_le _⟩ (Nat.le_of_ble_eq_true rfl) dX7_receiveRequest_152 rfl rfl ?_
                      refine J_pop (pc1 := 156) dX7_receiveRequest_155 rfl rfl ?_
                      cases h
                      exact J_vret hr hlk dX7_receiveRequest_156
                    refine J_if_eq (tgt := 151) (pc1 := 147) dX7_receiveRequest_144 (by decide) (fun q200 => ?_) rfl (fun q200 => ?_)
                    · rw [if_pos q200] at e198
                      subst e198
                      refine J_iconst (v := 0) (pc1 := 152) dX7_receiveRequest_151 (by decide) rfl ?_
                      exact k199
                    · rw [if_neg q200] at e198
                      subst e198
                      refine J_iconst (v := 1) (pc1 := 148) dX7_receiveRequest_147 (by decide) rfl ?_
                      refine J_goto (tgt := 152) dX7_receiveRequest_148 (by decide) ?_
                      exact k199
                  clear ej196
                  refine J_if_eq (tgt := 137) (pc1 := 125) dX7_receiveRequest_122 (by decide) (fun q204 => ?_) rfl (fun q204 => ?_)
                  · rw [if_pos q204] at h
                    refine J_sub [5, 6, 4, 0] (lv1 := [(0, .ref (ad 0 0)), (1, .int a1), (2, .int x1), (6, .int x191)]) rfl ?_
                    exact kj196 _ h
                  · rw [if_neg q204] at h
                    refine J_aload_n (i := 0) (q := 5) (pc1 := 126) dX7_receiveRequest_125 rfl rfl rfl ?_
                    refine J_iload_n (i := 1) (q := 6) (pc1 := 127) dX7_receiveRequest_126 rfl rfl rfl ?_
                    refine J_iconst (v := 3) (pc1 := 128) dX7_receiveRequest_127 (by decide) rfl ?_
                    refine J_iload_n (i := 2) (q := 4) (pc1 := 129) dX7_receiveRequest_128 rfl rfl rfl ?_
                    obtain ⟨μ206, hc205, h⟩ := gBp_s h
                    refine J_callV (As := [.int a1, .int 3, .int x1]) (ad := ad) (f := 0) (i := 0) (st := []) (st1 := []) (pc1 := 132) (kX7_set l D tc sa ad hI a1 3 x1 μ μ206 hc205) wcX7_set wlX7_43 eR0 rfl rfl rfl ⟨rfl, rfl, Nat.le_of_ble_eq_true rfl, Nat.le_of_ble_eq_true rfl⟩ ⟨Nat.zero_le _, Nat.zero_le _⟩ (Nat.le_of_ble_eq_true rfl) dX7_receiveRequest_129 rfl rfl ?_
                    refine J_aload_n (i := 0) (q := 5) (pc1 := 133) dX7_receiveRequest_132 rfl rfl rfl ?_
                    refine J_iload_n (i := 1) (q := 6) (pc1 := 134) dX7_receiveRequest_133 rfl rfl rfl ?_
                    obtain ⟨μ208, hc207, h⟩ := gBp_s h
                    refine J_callV (As := [.int a1]) (ad := ad) (f := 0) (i := 0) (st := []) (st1 := []) (pc1 := 137) (kX7_resetTimer l D tc sa ad hI a1 μ206 μ208 hc207) wcX7_resetTimer wlX7_47 eR0 rfl rfl rfl ⟨rfl, rfl, Nat.le_of_ble_eq_true rfl, Nat.le_of_ble_eq_true rfl⟩ ⟨Nat.zero_le _, Nat.zero_le _⟩ (Nat.le_of_ble_eq_true rfl) dX7_receiveRequest_134 rfl rfl ?_
                    refine J_sub [5, 6, 4, 0] (lv1 := [(0, .ref (ad 0 0)), (1, .int a1), (2, .int x1), (6, .int x191)]) rfl ?_
                    exact kj196 _ h
                refine J_if_eq (tgt := 117) (pc1 := 113) dX7_receiveRequest_110 (by decide) (fun q194 => ?_) rfl (fun q194 => ?_)
                · rw [if_pos q194] at e192
                  subst e192
                  refine J_iconst (v := 0) (pc1 := 118) dX7_receiveRequest_117 (by decide) rfl ?_
                  exact k193
                · rw [if_neg q194] at e192
                  subst e192
                  refine J_iconst (v := 1) (pc1 := 114) dX7_receiveRequest_113 (by decide) rfl ?_
                  refine J_goto (tgt := 118) dX7_receiveRequest_114 (by decide) ?_
                  exact k193
          refine J_icmp_ne (tgt := 85) (pc1 := 81) dX7_receiveRequest_78 (by decide) (fun q168 => ?_) rfl (fun q168 => ?_)
          · rw [if_neg q168] at e166
            subst e166
            refine J_iconst (v := 0) (pc1 := 86) dX7_receiveRequest_85 (by decide) rfl ?_
            exact k167
          · rw [if_pos q168] at e166
            subst e166
            refine J_iconst (v := 1) (pc1 := 82) dX7_receiveRequest_81 (by decide) rfl ?_
            refine J_goto (tgt := 86) dX7_receiveRequest_82 (by decide) ?_
            exact k167
      refine J_icmp_lt (tgt := 58) (pc1 := 54) dX7_receiveRequest_51 (by decide) (fun q115 => ?_) rfl (fun q115 => ?_)
      · rw [if_pos q115] at e113
        subst e113
        refine J_iconst (v := 0) (pc1 := 59) dX7_receiveRequest_58 (by decide) rfl ?_
        exact k114
      · rw [if_neg q115] at e113
        subst e113
        refine J_iconst (v := 1) (pc1 := 55) dX7_receiveRequest_54 (by decide) rfl ?_
        refine J_goto (tgt := 59) dX7_receiveRequest_55 (by decide) ?_
        exact k114
def mX7_receiveReply (a1 : Int32) (μ : gM) : Option gM :=
  gBp (mX7_of a1 1 μ) fun r2 =>
  if r2 = 1 then
    gBp (mX7_of a1 2 μ) fun r5 =>
    if (μ 4 0 3) = r5 then
      if (μ 4 0 6) = 1 then
        gBp (mX7_of a1 6 μ) fun r9 =>
        gBp (mX7_set a1 6 (r9 ||| (1 <<< ((μ 4 0 1) &&& 31))) μ) fun μ11 =>
        gBp (mX7_of a1 6 μ11) fun r13 =>
        gBp (mX7_isQuorum a1 r13 μ11) fun r15 =>
        if r15 = 0 then
          some μ11
        else
          gBp (mX7_win a1 μ11) fun μ18 =>
          some μ18
      else
        some μ
    else
      some μ
  else
    some μ
set_option maxHeartbeats 4000000 in
set_option maxRecDepth 100000 in
theorem kX7_receiveReply (l : Launch) (D : va_G) (tc : Nat → ClassId) (sa : Nat → Nat) (ad : Nat → Nat → Nat) (hI : gI gE_R ad) (a1 : Int32) (μ : gM) (μ' : gM) (h : mX7_receiveReply a1 μ = some μ') : gMet l yX7_receiveReply cX7_receiveReply 2 (none) ({ frames := 8, cells := 0, slots := 0, locals := 182 } : Room) D gE_R gkd_R tc ad grh_R sa [.ref (ad 0 0), .int a1] μ (none) μ' := by
  refine gMet_of hI ⟨by decide +kernel, Nat.le_of_ble_eq_true rfl⟩ (fun p e s m args below meth c sz hr hlk => ?_)
  unfold mX7_receiveReply at h
  show JR p l e ({ frames := 8, cells := 0, slots := 0, locals := 182 } : Room) s m args below meth c cX7_receiveReply 2 RX7 D tc sa ad sz (none) μ' μ 0 [(0, .ref (ad 0 0)), (1, .int a1)] []
  refine J_aload_n (i := 0) (q := 0) (pc1 := 1) dX7_receiveReply_0 rfl rfl rfl ?_
  refine J_iload_n (i := 1) (q := 1) (pc1 := 2) dX7_receiveReply_1 rfl rfl rfl ?_
  refine J_iconst (v := 1) (pc1 := 3) dX7_receiveReply_2 (by decide) rfl ?_
  obtain ⟨r2, hc1, h⟩ := gBp_s h
  refine J_callV (As := [.int a1, .int 1]) (ad := ad) (f := 0) (i := 0) (st := []) (st1 := [.int r2]) (pc1 := 6) (kX7_of l D tc sa ad hI a1 1 μ r2 hc1) wcX7_of wlX7_38 eR0 rfl rfl rfl ⟨rfl, rfl, Nat.le_of_ble_eq_true rfl, Nat.le_of_ble_eq_true rfl⟩ ⟨Nat.zero_le _, Nat.zero_le _⟩ (Nat.le_of_ble_eq_true rfl) dX7_receiveReply_3 rfl rfl ?_
  refine J_iconst (v := 1) (pc1 := 7) dX7_receiveReply_6 (by decide) rfl ?_
  refine J_icmp_ne (tgt := 79) (pc1 := 10) dX7_receiveReply_7 (by decide) (fun q3 => ?_) rfl (fun q3 => ?_)
  · rw [if_neg q3] at h
    cases h
    exact J_vret hr hlk dX7_receiveReply_79
  · rw [if_pos q3] at h
    refine J_aload_n (i := 0) (q := 0) (pc1 := 11) dX7_receiveReply_10 rfl rfl rfl ?_
    refine J_getR (T := TX7) (f' := 4) (i' := 0) (pc1 := 14) eR0 rfl rfl inX7 4 (by decide) rfl rfl flX7_16 rfl dX7_receiveReply_11 rfl ?_
    refine J_iconst (v := 3) (pc1 := 15) dX7_receiveReply_14 (by decide) rfl ?_
    refine J_iald (ix := 3) (pc1 := 16) (by decide) eR4 rfl (by decide : inb 3 25) dX7_receiveReply_15 rfl ?_
    refine J_aload_n (i := 0) (q := 0) (pc1 := 17) dX7_receiveReply_16 rfl rfl rfl ?_
    refine J_iload_n (i := 1) (q := 1) (pc1 := 18) dX7_receiveReply_17 rfl rfl rfl ?_
    refine J_iconst (v := 2) (pc1 := 19) dX7_receiveReply_18 (by decide) rfl ?_
    obtain ⟨r5, hc4, h⟩ := gBp_s h
    refine J_callV (As := [.int a1, .int 2]) (ad := ad) (f := 0) (i := 0) (st := [.int (μ 4 0 3)]) (st1 := [.int r5, .int (μ 4 0 3)]) (pc1 := 22) (kX7_of l D tc sa ad hI a1 2 μ r5 hc4) wcX7_of wlX7_38 eR0 rfl rfl rfl ⟨rfl, rfl, Nat.le_of_ble_eq_true rfl, Nat.le_of_ble_eq_true rfl⟩ ⟨Nat.zero_le _, Nat.zero_le _⟩ (Nat.le_of_ble_eq_true rfl) dX7_receiveReply_19 rfl rfl ?_
    refine J_icmp_ne (tgt := 79) (pc1 := 25) dX7_receiveReply_22 (by decide) (fun q6 => ?_) rfl (fun q6 => ?_)
    · rw [if_neg q6] at h
      cases h
      exact J_vret hr hlk dX7_receiveReply_79
    · rw [if_pos q6] at h
      refine J_aload_n (i := 0) (q := 0) (pc1 := 26) dX7_receiveReply_25 rfl rfl rfl ?_
      refine J_getR (T := TX7) (f' := 4) (i' := 0) (pc1 := 29) eR0 rfl rfl inX7 4 (by decide) rfl rfl flX7_16 rfl dX7_receiveReply_26 rfl ?_
      refine J_bipush (v := 6) (pc1 := 31) dX7_receiveReply_29 (by decide) rfl ?_
      refine J_iald (ix := 6) (pc1 := 32) (by decide) eR4 rfl (by decide : inb 6 25) dX7_receiveReply_31 rfl ?_
      refine J_iconst (v := 1) (pc1 := 33) dX7_receiveReply_32 (by decide) rfl ?_
      refine J_icmp_ne (tgt := 79) (pc1 := 36) dX7_receiveReply_33 (by decide) (fun q7 => ?_) rfl (fun q7 => ?_)
      · rw [if_neg q7] at h
        cases h
        exact J_vret hr hlk dX7_receiveReply_79
      · rw [if_pos q7] at h
        refine J_aload_n (i := 0) (q := 0) (pc1 := 37) dX7_receiveReply_36 rfl rfl rfl ?_
        refine J_iload_n (i := 1) (q := 1) (pc1 := 38) dX7_receiveReply_37 rfl rfl rfl ?_
        refine J_bipush (v := 6) (pc1 := 40) dX7_receiveReply_38 (by decide) rfl ?_
        refine J_aload_n (i := 0) (q := 0) (pc1 := 41) dX7_receiveReply_40 rfl rfl rfl ?_
        refine J_iload_n (i := 1) (q := 1) (pc1 := 42) dX7_receiveReply_41 rfl rfl rfl ?_
        refine J_bipush (v := 6) (pc1 := 44) dX7_receiveReply_42 (by decide) rfl ?_
        obtain ⟨r9, hc8, h⟩ := gBp_s h
        refine J_callV (As := [.int a1, .int 6]) (ad := ad) (f := 0) (i := 0) (st := [.int 6, .int a1, .ref (ad 0 0)]) (st1 := [.int r9, .int 6, .int a1, .ref (ad 0 0)]) (pc1 := 47) (kX7_of l D tc sa ad hI a1 6 μ r9 hc8) wcX7_of wlX7_38 eR0 rfl rfl rfl ⟨rfl, rfl, Nat.le_of_ble_eq_true rfl, Nat.le_of_ble_eq_true rfl⟩ ⟨Nat.zero_le _, Nat.zero_le _⟩ (Nat.le_of_ble_eq_true rfl) dX7_receiveReply_44 rfl rfl ?_
        refine J_iconst (v := 1) (pc1 := 48) dX7_receiveReply_47 (by decide) rfl ?_
        refine J_aload_n (i := 0) (q := 0) (pc1 := 49) dX7_receiveReply_48 rfl rfl rfl ?_
        refine J_getR (T := TX7) (f' := 4) (i' := 0) (pc1 := 52) eR0 rfl rfl inX7 4 (by decide) rfl rfl flX7_16 rfl dX7_receiveReply_49 rfl ?_
        refine J_iconst (v := 1) (pc1 := 53) dX7_receiveReply_52 (by decide) rfl ?_
        refine J_iald (ix := 1) (pc1 := 54) (by decide) eR4 rfl (by decide : inb 1 25) dX7_receiveReply_53 rfl ?_
        refine J_ishl (pc1 := 55) dX7_receiveReply_54 rfl ?_
        refine J_ior (pc1 := 56) dX7_receiveReply_55 rfl ?_
        obtain ⟨μ11, hc10, h⟩ := gBp_s h
        refine J_callV (As := [.int a1, .int 6, .int (r9 ||| (1 <<< ((μ 4 0 1) &&& 31)))]) (ad := ad) (f := 0) (i := 0) (st := []) (st1 := []) (pc1 := 59) (kX7_set l D tc sa ad hI a1 6 (r9 ||| (1 <<< ((μ 4 0 1) &&& 31))) μ μ11 hc10) wcX7_set wlX7_43 eR0 rfl rfl rfl ⟨rfl, rfl, Nat.le_of_ble_eq_true rfl, Nat.le_of_ble_eq_true rfl⟩ ⟨Nat.zero_le _, Nat.zero_le _⟩ (Nat.le_of_ble_eq_true rfl) dX7_receiveReply_56 rfl rfl ?_
        refine J_aload_n (i := 0) (q := 0) (pc1 := 60) dX7_receiveReply_59 rfl rfl rfl ?_
        refine J_iload_n (i := 1) (q := 1) (pc1 := 61) dX7_receiveReply_60 rfl rfl rfl ?_
        refine J_aload_n (i := 0) (q := 0) (pc1 := 62) dX7_receiveReply_61 rfl rfl rfl ?_
        refine J_iload_n (i := 1) (q := 1) (pc1 := 63) dX7_receiveReply_62 rfl rfl rfl ?_
        refine J_bipush (v := 6) (pc1 := 65) dX7_receiveReply_63 (by decide) rfl ?_
        obtain ⟨r13, hc12, h⟩ := gBp_s h
        refine J_callV (As := [.int a1, .int 6]) (ad := ad) (f := 0) (i := 0) (st := [.int a1, .ref (ad 0 0)]) (st1 := [.int r13, .int a1, .ref (ad 0 0)]) (pc1 := 68) (kX7_of l D tc sa ad hI a1 6 μ11 r13 hc12) wcX7_of wlX7_38 eR0 rfl rfl rfl ⟨rfl, rfl, Nat.le_of_ble_eq_true rfl, Nat.le_of_ble_eq_true rfl⟩ ⟨Nat.zero_le _, Nat.zero_le _⟩ (Nat.le_of_ble_eq_true rfl) dX7_receiveReply_65 rfl rfl ?_
        obtain ⟨r15, hc14, h⟩ := gBp_s h
        refine J_callV (As := [.int a1, .int r13]) (ad := ad) (f := 0) (i := 0) (st := []) (st1 := [.int r15]) (pc1 := 71) (kX7_isQuorum l D tc sa ad hI a1 r13 μ11 r15 hc14) wcX7_isQuorum wlX7_117 eR0 rfl rfl rfl ⟨rfl, rfl, Nat.le_of_ble_eq_true rfl, Nat.le_of_ble_eq_true rfl⟩ ⟨Nat.zero_le _, Nat.zero_le _⟩ (Nat.le_of_ble_eq_true rfl) dX7_receiveReply_68 rfl rfl ?_
        refine J_if_eq (tgt := 79) (pc1 := 74) dX7_receiveReply_71 (by decide) (fun q16 => ?_) rfl (fun q16 => ?_)
        · rw [if_pos q16] at h
          cases h
          exact J_vret hr hlk dX7_receiveReply_79
        · rw [if_neg q16] at h
          refine J_aload_n (i := 0) (q := 0) (pc1 := 75) dX7_receiveReply_74 rfl rfl rfl ?_
          refine J_iload_n (i := 1) (q := 1) (pc1 := 76) dX7_receiveReply_75 rfl rfl rfl ?_
          obtain ⟨μ18, hc17, h⟩ := gBp_s h
          refine J_callV (As := [.int a1]) (ad := ad) (f := 0) (i := 0) (st := []) (st1 := []) (pc1 := 79) (kX7_win l D tc sa ad hI a1 μ11 μ18 hc17) wcX7_win wlX7_133 eR0 rfl rfl rfl ⟨rfl, rfl, Nat.le_of_ble_eq_true rfl, Nat.le_of_ble_eq_true rfl⟩ ⟨Nat.zero_le _, Nat.zero_le _⟩ (Nat.le_of_ble_eq_true rfl) dX7_receiveReply_76 rfl rfl ?_
          cases h
          exact J_vret hr hlk dX7_receiveReply_79
def mX7_take (a1 : Int32) (μ : gM) : Option (Int32 × gM) :=
  gJon (fun (μ1 : gM) =>
      some (μ1 4 0 6, μ1)) fun j2 =>
  gFx2 (fun rec5 (x3 : Int32) (μ4 : gM) =>
      if (μ4 4 0 6) ≤ x3 then
        j2 μ4
      else
        gLet (α := Int32) (((μ4 4 0 5) + 1) + x3) fun x7 =>
        gChk (inb (13 + (3 * x3)) 25) <|
        gLet (α := Int32) (μ4 4 0 ((13 + (3 * x3)).toNatClampNeg)) fun x12 =>
        gBp (mX7_of a1 7 μ4) fun r17 =>
        if x7 ≤ r17 then
          rec5 (x3 + 1) μ4
        else
          gBp (mX7_last a1 μ4) fun r20 =>
          gJon (fun (μ21 : gM) =>
              gBp (mX7_last a1 μ21) fun r24 =>
              if x7 ≤ r24 then
                rec5 (x3 + 1) μ21
              else
                gBp (mX7_of a1 12 μ21) fun r27 =>
                if r27 = 24 then
                  some (x3, μ21)
                else
                  gChk (inb ((13 + (3 * x3)) + 1) 25) <|
                  gChk (inb ((13 + (3 * x3)) + 2) 25) <|
                  gBp (mX7_add a1 x12 (μ21 4 0 (((13 + (3 * x3)) + 1).toNatClampNeg)) (μ21 4 0 (((13 + (3 * x3)) + 2).toNatClampNeg)) μ21) fun μ32 =>
                  rec5 (x3 + 1) μ32) fun j22 =>
          if r20 < x7 then
            j22 μ4
          else
            gBp (mX7_termAt a1 x7 μ4) fun r35 =>
            if r35 = x12 then
              j22 μ4
            else
              gBp (mX7_last a1 μ4) fun r38 =>
              gBp (mX7_tally 5 ((r38 - x7) + 1) μ4) fun μ40 =>
              gBp (mX7_of a1 7 μ40) fun r42 =>
              gBp (mX7_set a1 12 ((x7 - r42) - 1) μ40) fun μ44 =>
              j22 μ44) 1000000 0 μ
set_option maxHeartbeats 4000000 in
set_option maxRecDepth 100000 in
theorem kX7_take (l : Launch) (D : va_G) (tc : Nat → ClassId) (sa : Nat → Nat) (ad : Nat → Nat → Nat) (hI : gI gE_R ad) (a1 : Int32) (μ : gM) (r : Int32) (μ' : gM) (h : mX7_take a1 μ = some (r, μ')) : gMet l yX7_take cX7_take 5 (some .int) ({ frames := 3, cells := 0, slots := 0, locals := 67 } : Room) D gE_R gkd_R tc ad grh_R sa [.ref (ad 0 0), .int a1] μ (some (.int r)) μ' := by
  refine gMet_of hI ⟨by decide +kernel, Nat.le_of_ble_eq_true rfl⟩ (fun p e s m args below meth c sz hr hlk => ?_)
  unfold mX7_take at h
  show JR p l e ({ frames := 3, cells := 0, slots := 0, locals := 67 } : Room) s m args below meth c cX7_take 5 RX7 D tc sa ad sz (some (.int r)) μ' μ 0 [(0, .ref (ad 0 0)), (1, .int a1)] []
  refine J_iconst (v := 0) (pc1 := 1) dX7_take_0 (by decide) rfl ?_
  refine J_istore_n (i := 2) (lv1 := [(2, .int 0), (0, .ref (ad 0 0)), (1, .int a1)]) (pc1 := 2) dX7_take_1 rfl (by decide) rfl rfl ?_
  obtain ⟨j2, ej2, h⟩ := gJon_s h
  have kj2 : ∀ (μ1 : gM), j2 μ1 = some (r, μ') → JR p l e ({ frames := 3, cells := 0, slots := 0, locals := 67 } : Room) s m args below meth c cX7_take 5 RX7 D tc sa ad sz (some (.int r)) μ' μ1 162 [(0, .ref (ad 0 0))] [] := by
    intro μ1 h
    rw [ej2] at h
    try dsimp only at h
    refine J_aload_n (i := 0) (q := 0) (pc1 := 163) dX7_take_162 rfl rfl rfl ?_
    refine J_getR (T := TX7) (f' := 4) (i' := 0) (pc1 := 166) eR0 rfl rfl inX7 4 (by decide) rfl rfl flX7_16 rfl dX7_take_163 rfl ?_
    refine J_bipush (v := 6) (pc1 := 168) dX7_take_166 (by decide) rfl ?_
    refine J_iald (ix := 6) (pc1 := 169) (by decide) eR4 rfl (by decide : inb 6 25) dX7_take_168 rfl ?_
    cases h
    exact J_iret hr hlk dX7_take_169
  clear ej2
  refine J_sub [1, 2, 0] (lv1 := [(0, .ref (ad 0 0)), (1, .int a1), (2, .int 0)]) rfl ?_
  refine gFx2_s (P := fun x3 μ4 => JR p l e ({ frames := 3, cells := 0, slots := 0, locals := 67 } : Room) s m args below meth c cX7_take 5 RX7 D tc sa ad sz (some (.int r)) μ' μ4 2 [(0, .ref (ad 0 0)), (1, .int a1), (2, .int x3)] []) (fun rec5 ihrec5 x3 μ4 h => ?_) _ _ _ h
  try dsimp only at h
  refine J_iload_n (i := 2) (q := 2) (pc1 := 3) dX7_take_2 rfl rfl rfl ?_
  refine J_aload_n (i := 0) (q := 0) (pc1 := 4) dX7_take_3 rfl rfl rfl ?_
  refine J_getR (T := TX7) (f' := 4) (i' := 0) (pc1 := 7) eR0 rfl rfl inX7 4 (by decide) rfl rfl flX7_16 rfl dX7_take_4 rfl ?_
  refine J_bipush (v := 6) (pc1 := 9) dX7_take_7 (by decide) rfl ?_
  refine J_iald (ix := 6) (pc1 := 10) (by decide) eR4 rfl (by decide : inb 6 25) dX7_take_9 rfl ?_
  refine J_icmp_ge (tgt := 162) (pc1 := 13) dX7_take_10 (by decide) (fun q6 => ?_) rfl (fun q6 => ?_)
  · rw [if_pos q6] at h
    refine J_sub [0] (lv1 := [(0, .ref (ad 0 0))]) rfl ?_
    exact kj2 _ h
  · rw [if_neg q6] at h
    refine J_aload_n (i := 0) (q := 0) (pc1 := 14) dX7_take_13 rfl rfl rfl ?_
    refine J_getR (T := TX7) (f' := 4) (i' := 0) (pc1 := 17) eR0 rfl rfl inX7 4 (by decide) rfl rfl flX7_16 rfl dX7_take_14 rfl ?_
    refine J_iconst (v := 5) (pc1 := 18) dX7_take_17 (by decide) rfl ?_
    refine J_iald (ix := 5) (pc1 := 19) (by decide) eR4 rfl (by decide : inb 5 25) dX7_take_18 rfl ?_
    refine J_iconst (v := 1) (pc1 := 20) dX7_take_19 (by decide) rfl ?_
    refine J_iadd (pc1 := 21) dX7_take_20 rfl ?_
    refine J_iload_n (i := 2) (q := 2) (pc1 := 22) dX7_take_21 rfl rfl rfl ?_
    refine J_iadd (pc1 := 23) dX7_take_22 rfl ?_
    obtain ⟨x7, e9, h⟩ := gLet_s h
    refine J_top (fun y8 e10 => ?_)
    have e10x : x7 = y8 := (e10.trans e9.symm).symm
    subst e10x
    refine J_istore_n (i := 3) (lv1 := [(3, .int x7), (0, .ref (ad 0 0)), (1, .int a1), (2, .int x3)]) (pc1 := 24) dX7_take_23 rfl (by decide) rfl rfl ?_
    refine J_aload_n (i := 0) (q := 1) (pc1 := 25) dX7_take_24 rfl rfl rfl ?_
    refine J_getR (T := TX7) (f' := 4) (i' := 0) (pc1 := 28) eR0 rfl rfl inX7 4 (by decide) rfl rfl flX7_16 rfl dX7_take_25 rfl ?_
    refine J_bipush (v := 13) (pc1 := 30) dX7_take_28 (by decide) rfl ?_
    refine J_iconst (v := 3) (pc1 := 31) dX7_take_30 (by decide) rfl ?_
    refine J_iload_n (i := 2) (q := 3) (pc1 := 32) dX7_take_31 rfl rfl rfl ?_
    refine J_imul (pc1 := 33) dX7_take_32 rfl ?_
    refine J_iadd (pc1 := 34) dX7_take_33 rfl ?_
    obtain ⟨h11, h⟩ := gChk_s h
    refine J_iald (ix := ((13 + (3 * x3)).toNatClampNeg)) (pc1 := 35) rfl eR4 rfl h11 dX7_take_34 rfl ?_
    obtain ⟨x12, e14, h⟩ := gLet_s h
    refine J_top (fun y13 e15 => ?_)
    have e15x : x12 = y13 := (e15.trans e14.symm).symm
    subst e15x
    refine J_istore (i := 4) (lv1 := [(4, .int x12), (3, .int x7), (0, .ref (ad 0 0)), (1, .int a1), (2, .int x3)]) (pc1 := 37) dX7_take_35 (by decide) rfl rfl ?_
    refine J_iload_n (i := 3) (q := 1) (pc1 := 38) dX7_take_37 rfl rfl rfl ?_
    refine J_aload_n (i := 0) (q := 2) (pc1 := 39) dX7_take_38 rfl rfl rfl ?_
    refine J_iload_n (i := 1) (q := 3) (pc1 := 40) dX7_take_39 rfl rfl rfl ?_
    refine J_bipush (v := 7) (pc1 := 42) dX7_take_40 (by decide) rfl ?_
    obtain ⟨r17, hc16, h⟩ := gBp_s h
    refine J_callV (As := [.int a1, .int 7]) (ad := ad) (f := 0) (i := 0) (st := [.int x7]) (st1 := [.int r17, .int x7]) (pc1 := 45) (kX7_of l D tc sa ad hI a1 7 μ4 r17 hc16) wcX7_of wlX7_38 eR0 rfl rfl rfl ⟨rfl, rfl, Nat.le_of_ble_eq_true rfl, Nat.le_of_ble_eq_true rfl⟩ ⟨Nat.zero_le _, Nat.zero_le _⟩ (Nat.le_of_ble_eq_true rfl) dX7_take_42 rfl rfl ?_
    refine J_icmp_le (tgt := 156) (pc1 := 48) dX7_take_45 (by decide) (fun q18 => ?_) rfl (fun q18 => ?_)
    · rw [if_pos q18] at h
      refine J_iinc (i := 2) (q := 4) (v := x3 + 1) (lv1 := [(2, .int (x3 + 1)), (4, .int x12), (3, .int x7), (0, .ref (ad 0 0)), (1, .int a1)]) (pc1 := 159) dX7_take_156 rfl rfl (by decide) rfl rfl ?_
      refine J_goto (tgt := 2) dX7_take_159 (by decide) ?_
      refine J_sub [3, 4, 0] (lv1 := [(0, .ref (ad 0 0)), (1, .int a1), (2, .int (x3 + 1))]) rfl ?_
      exact ihrec5 _ _ h
    · rw [if_neg q18] at h
      refine J_iload_n (i := 3) (q := 1) (pc1 := 49) dX7_take_48 rfl rfl rfl ?_
      refine J_aload_n (i := 0) (q := 2) (pc1 := 50) dX7_take_49 rfl rfl rfl ?_
      refine J_iload_n (i := 1) (q := 3) (pc1 := 51) dX7_take_50 rfl rfl rfl ?_
      obtain ⟨r20, hc19, h⟩ := gBp_s h
      refine J_callV (As := [.int a1]) (ad := ad) (f := 0) (i := 0) (st := [.int x7]) (st1 := [.int r20, .int x7]) (pc1 := 54) (kX7_last l D tc sa ad hI a1 μ4 r20 hc19) wcX7_last wlX7_67 eR0 rfl rfl rfl ⟨rfl, rfl, Nat.le_of_ble_eq_true rfl, Nat.le_of_ble_eq_true rfl⟩ ⟨Nat.zero_le _, Nat.zero_le _⟩ (Nat.le_of_ble_eq_true rfl) dX7_take_51 rfl rfl ?_
      obtain ⟨j22, ej22, h⟩ := gJon_s h
      have kj22 : ∀ (μ21 : gM), j22 μ21 = some (r, μ') → JR p l e ({ frames := 3, cells := 0, slots := 0, locals := 67 } : Room) s m args below meth c cX7_take 5 RX7 D tc sa ad sz (some (.int r)) μ' μ21 100 [(0, .ref (ad 0 0)), (1, .int a1), (2, .int x3), (3, .int x7), (4, .int x12)] [] := by
        intro μ21 h
        rw [ej22] at h
        try dsimp only at h
        refine J_iload_n (i := 3) (q := 3) (pc1 := 101) dX7_take_100 rfl rfl rfl ?_
        refine J_aload_n (i := 0) (q := 0) (pc1 := 102) dX7_take_101 rfl rfl rfl ?_
        refine J_iload_n (i := 1) (q := 1) (pc1 := 103) dX7_take_102 rfl rfl rfl ?_
        obtain ⟨r24, hc23, h⟩ := gBp_s h
        refine J_callV (As := [.int a1]) (ad := ad) (f := 0) (i := 0) (st := [.int x7]) (st1 := [.int r24, .int x7]) (pc1 := 106) (kX7_last l D tc sa ad hI a1 μ21 r24 hc23) wcX7_last wlX7_67 eR0 rfl rfl rfl ⟨rfl, rfl, Nat.le_of_ble_eq_true rfl, Nat.le_of_ble_eq_true rfl⟩ ⟨Nat.zero_le _, Nat.zero_le _⟩ (Nat.le_of_ble_eq_true rfl) dX7_take_103 rfl rfl ?_
        refine J_icmp_le (tgt := 156) (pc1 := 109) dX7_take_106 (by decide) (fun q25 => ?_) rfl (fun q25 => ?_)
        · rw [if_pos q25] at h
          refine J_iinc (i := 2) (q := 2) (v := x3 + 1) (lv1 := [(2, .int (x3 + 1)), (0, .ref (ad 0 0)), (1, .int a1), (3, .int x7), (4, .int x12)]) (pc1 := 159) dX7_take_156 rfl rfl (by decide) rfl rfl ?_
          refine J_goto (tgt := 2) dX7_take_159 (by decide) ?_
          refine J_sub [1, 2, 0] (lv1 := [(0, .ref (ad 0 0)), (1, .int a1), (2, .int (x3 + 1))]) rfl ?_
          exact ihrec5 _ _ h
        · rw [if_neg q25] at h
          refine J_aload_n (i := 0) (q := 0) (pc1 := 110) dX7_take_109 rfl rfl rfl ?_
          refine J_iload_n (i := 1) (q := 1) (pc1 := 111) dX7_take_110 rfl rfl rfl ?_
          refine J_bipush (v := 12) (pc1 := 113) dX7_take_111 (by decide) rfl ?_
          obtain ⟨r27, hc26, h⟩ := gBp_s h
          refine J_callV (As := [.int a1, .int 12]) (ad := ad) (f := 0) (i := 0) (st := []) (st1 := [.int r27]) (pc1 := 116) (kX7_of l D tc sa ad hI a1 12 μ21 r27 hc26) wcX7_of wlX7_38 eR0 rfl rfl rfl ⟨rfl, rfl, Nat.le_of_ble_eq_true rfl, Nat.le_of_ble_eq_true rfl⟩ ⟨Nat.zero_le _, Nat.zero_le _⟩ (Nat.le_of_ble_eq_true rfl) dX7_take_113 rfl rfl ?_
          refine J_bipush (v := 24) (pc1 := 118) dX7_take_116 (by decide) rfl ?_
          refine J_icmp_ne (tgt := 123) (pc1 := 121) dX7_take_118 (by decide) (fun q28 => ?_) rfl (fun q28 => ?_)
          · rw [if_neg q28] at h
            refine J_aload_n (i := 0) (q := 0) (pc1 := 124) dX7_take_123 rfl rfl rfl ?_
            refine J_iload_n (i := 1) (q := 1) (pc1 := 125) dX7_take_124 rfl rfl rfl ?_
            refine J_iload (i := 4) (q := 4) (pc1 := 127) dX7_take_125 rfl rfl ?_
            refine J_aload_n (i := 0) (q := 0) (pc1 := 128) dX7_take_127 rfl rfl rfl ?_
            refine J_getR (T := TX7) (f' := 4) (i' := 0) (pc1 := 131) eR0 rfl rfl inX7 4 (by decide) rfl rfl flX7_16 rfl dX7_take_128 rfl ?_
            refine J_bipush (v := 13) (pc1 := 133) dX7_take_131 (by decide) rfl ?_
            refine J_iconst (v := 3) (pc1 := 134) dX7_take_133 (by decide) rfl ?_
            refine J_iload_n (i := 2) (q := 2) (pc1 := 135) dX7_take_134 rfl rfl rfl ?_
            refine J_imul (pc1 := 136) dX7_take_135 rfl ?_
            refine J_iadd (pc1 := 137) dX7_take_136 rfl ?_
            refine J_iconst (v := 1) (pc1 := 138) dX7_take_137 (by decide) rfl ?_
            refine J_iadd (pc1 := 139) dX7_take_138 rfl ?_
            obtain ⟨h29, h⟩ := gChk_s h
            refine J_iald (ix := (((13 + (3 * x3)) + 1).toNatClampNeg)) (pc1 := 140) rfl eR4 rfl h29 dX7_take_139 rfl ?_
            refine J_aload_n (i := 0) (q := 0) (pc1 := 141) dX7_take_140 rfl rfl rfl ?_
            refine J_getR (T := TX7) (f' := 4) (i' := 0) (pc1 := 144) eR0 rfl rfl inX7 4 (by decide) rfl rfl flX7_16 rfl dX7_take_141 rfl ?_
            refine J_bipush (v := 13) (pc1 := 146) dX7_take_144 (by decide) rfl ?_
            refine J_iconst (v := 3) (pc1 := 147) dX7_take_146 (by decide) rfl ?_
            refine J_iload_n (i := 2) (q := 2) (pc1 := 148) dX7_take_147 rfl rfl rfl ?_
            refine J_imul (pc1 := 149) dX7_take_148 rfl ?_
            refine J_iadd (pc1 := 150) dX7_take_149 rfl ?_
            refine J_iconst (v := 2) (pc1 := 151) dX7_take_150 (by decide) rfl ?_
            refine J_iadd (pc1 := 152) dX7_take_151 rfl ?_
            obtain ⟨h30, h⟩ := gChk_s h
            refine J_iald (ix := (((13 + (3 * x3)) + 2).toNatClampNeg)) (pc1 := 153) rfl eR4 rfl h30 dX7_take_152 rfl ?_
            obtain ⟨μ32, hc31, h⟩ := gBp_s h
            refine J_callV (As := [.int a1, .int x12, .int (μ21 4 0 (((13 + (3 * x3)) + 1).toNatClampNeg)), .int (μ21 4 0 (((13 + (3 * x3)) + 2).toNatClampNeg))]) (ad := ad) (f := 0) (i := 0) (st := []) (st1 := []) (pc1 := 156) (kX7_add l D tc sa ad hI a1 x12 (μ21 4 0 (((13 + (3 * x3)) + 1).toNatClampNeg)) (μ21 4 0 (((13 + (3 * x3)) + 2).toNatClampNeg)) μ21 μ32 hc31) wcX7_add wlX7_120 eR0 rfl rfl rfl ⟨rfl, rfl, Nat.le_of_ble_eq_true rfl, Nat.le_of_ble_eq_true rfl⟩ ⟨Nat.zero_le _, Nat.zero_le _⟩ (Nat.le_of_ble_eq_true rfl) dX7_take_153 rfl rfl ?_
            refine J_iinc (i := 2) (q := 2) (v := x3 + 1) (lv1 := [(2, .int (x3 + 1)), (0, .ref (ad 0 0)), (1, .int a1), (3, .int x7), (4, .int x12)]) (pc1 := 159) dX7_take_156 rfl rfl (by decide) rfl rfl ?_
            refine J_goto (tgt := 2) dX7_take_159 (by decide) ?_
            refine J_sub [1, 2, 0] (lv1 := [(0, .ref (ad 0 0)), (1, .int a1), (2, .int (x3 + 1))]) rfl ?_
            exact ihrec5 _ _ h
          · rw [if_pos q28] at h
            refine J_iload_n (i := 2) (q := 2) (pc1 := 122) dX7_take_121 rfl rfl rfl ?_
            cases h
            exact J_iret hr hlk dX7_take_122
      clear ej22
      refine J_icmp_gt (tgt := 100) (pc1 := 57) dX7_take_54 (by decide) (fun q33 => ?_) rfl (fun q33 => ?_)
      · rw [if_pos q33] at h
        refine J_sub [2, 3, 4, 1, 0] (lv1 := [(0, .ref (ad 0 0)), (1, .int a1), (2, .int x3), (3, .int x7), (4, .int x12)]) rfl ?_
        exact kj22 _ h
      · rw [if_neg q33] at h
        refine J_aload_n (i := 0) (q := 2) (pc1 := 58) dX7_take_57 rfl rfl rfl ?_
        refine J_iload_n (i := 1) (q := 3) (pc1 := 59) dX7_take_58 rfl rfl rfl ?_
        refine J_iload_n (i := 3) (q := 1) (pc1 := 60) dX7_take_59 rfl rfl rfl ?_
        obtain ⟨r35, hc34, h⟩ := gBp_s h
        refine J_callV (As := [.int a1, .int x7]) (ad := ad) (f := 0) (i := 0) (st := []) (st1 := [.int r35]) (pc1 := 63) (kX7_termAt l D tc sa ad hI a1 x7 μ4 r35 hc34) wcX7_termAt wlX7_99 eR0 rfl rfl rfl ⟨rfl, rfl, Nat.le_of_ble_eq_true rfl, Nat.le_of_ble_eq_true rfl⟩ ⟨Nat.zero_le _, Nat.zero_le _⟩ (Nat.le_of_ble_eq_true rfl) dX7_take_60 rfl rfl ?_
        refine J_iload (i := 4) (q := 0) (pc1 := 65) dX7_take_63 rfl rfl ?_
        refine J_icmp_eq (tgt := 100) (pc1 := 68) dX7_take_65 (by decide) (fun q36 => ?_) rfl (fun q36 => ?_)
        · rw [if_pos q36] at h
          refine J_sub [2, 3, 4, 1, 0] (lv1 := [(0, .ref (ad 0 0)), (1, .int a1), (2, .int x3), (3, .int x7), (4, .int x12)]) rfl ?_
          exact kj22 _ h
        · rw [if_neg q36] at h
          refine J_aload_n (i := 0) (q := 2) (pc1 := 69) dX7_take_68 rfl rfl rfl ?_
          refine J_iconst (v := 5) (pc1 := 70) dX7_take_69 (by decide) rfl ?_
          refine J_aload_n (i := 0) (q := 2) (pc1 := 71) dX7_take_70 rfl rfl rfl ?_
          refine J_iload_n (i := 1) (q := 3) (pc1 := 72) dX7_take_71 rfl rfl rfl ?_
          obtain ⟨r38, hc37, h⟩ := gBp_s h
          refine J_callV (As := [.int a1]) (ad := ad) (f := 0) (i := 0) (st := [.int 5, .ref (ad 0 0)]) (st1 := [.int r38, .int 5, .ref (ad 0 0)]) (pc1 := 75) (kX7_last l D tc sa ad hI a1 μ4 r38 hc37) wcX7_last wlX7_67 eR0 rfl rfl rfl ⟨rfl, rfl, Nat.le_of_ble_eq_true rfl, Nat.le_of_ble_eq_true rfl⟩ ⟨Nat.zero_le _, Nat.zero_le _⟩ (Nat.le_of_ble_eq_true rfl) dX7_take_72 rfl rfl ?_
          refine J_iload_n (i := 3) (q := 1) (pc1 := 76) dX7_take_75 rfl rfl rfl ?_
          refine J_isub (pc1 := 77) dX7_take_76 rfl ?_
          refine J_iconst (v := 1) (pc1 := 78) dX7_take_77 (by decide) rfl ?_
          refine J_iadd (pc1 := 79) dX7_take_78 rfl ?_
          obtain ⟨μ40, hc39, h⟩ := gBp_s h
          refine J_callV (As := [.int 5, .int ((r38 - x7) + 1)]) (ad := ad) (f := 0) (i := 0) (st := []) (st1 := []) (pc1 := 82) (kX7_tally l D tc sa ad hI 5 ((r38 - x7) + 1) μ4 μ40 hc39) wcX7_tally wlX7_86 eR0 rfl rfl rfl ⟨rfl, rfl, Nat.le_of_ble_eq_true rfl, Nat.le_of_ble_eq_true rfl⟩ ⟨Nat.zero_le _, Nat.zero_le _⟩ (Nat.le_of_ble_eq_true rfl) dX7_take_79 rfl rfl ?_
          refine J_aload_n (i := 0) (q := 2) (pc1 := 83) dX7_take_82 rfl rfl rfl ?_
          refine J_iload_n (i := 1) (q := 3) (pc1 := 84) dX7_take_83 rfl rfl rfl ?_
          refine J_bipush (v := 12) (pc1 := 86) dX7_take_84 (by decide) rfl ?_
          refine J_iload_n (i := 3) (q := 1) (pc1 := 87) dX7_take_86 rfl rfl rfl ?_
          refine J_aload_n (i := 0) (q := 2) (pc1 := 88) dX7_take_87 rfl rfl rfl ?_
          refine J_iload_n (i := 1) (q := 3) (pc1 := 89) dX7_take_88 rfl rfl rfl ?_
          refine J_bipush (v := 7) (pc1 := 91) dX7_take_89 (by decide) rfl ?_
          obtain ⟨r42, hc41, h⟩ := gBp_s h
          refine J_callV (As := [.int a1, .int 7]) (ad := ad) (f := 0) (i := 0) (st := [.int x7, .int 12, .int a1, .ref (ad 0 0)]) (st1 := [.int r42, .int x7, .int 12, .int a1, .ref (ad 0 0)]) (pc1 := 94) (kX7_of l D tc sa ad hI a1 7 μ40 r42 hc41) wcX7_of wlX7_38 eR0 rfl rfl rfl ⟨rfl, rfl, Nat.le_of_ble_eq_true rfl, Nat.le_of_ble_eq_true rfl⟩ ⟨Nat.zero_le _, Nat.zero_le _⟩ (Nat.le_of_ble_eq_true rfl) dX7_take_91 rfl rfl ?_
          refine J_isub (pc1 := 95) dX7_take_94 rfl ?_
          refine J_iconst (v := 1) (pc1 := 96) dX7_take_95 (by decide) rfl ?_
          refine J_isub (pc1 := 97) dX7_take_96 rfl ?_
          obtain ⟨μ44, hc43, h⟩ := gBp_s h
          refine J_callV (As := [.int a1, .int 12, .int ((x7 - r42) - 1)]) (ad := ad) (f := 0) (i := 0) (st := []) (st1 := []) (pc1 := 100) (kX7_set l D tc sa ad hI a1 12 ((x7 - r42) - 1) μ40 μ44 hc43) wcX7_set wlX7_43 eR0 rfl rfl rfl ⟨rfl, rfl, Nat.le_of_ble_eq_true rfl, Nat.le_of_ble_eq_true rfl⟩ ⟨Nat.zero_le _, Nat.zero_le _⟩ (Nat.le_of_ble_eq_true rfl) dX7_take_97 rfl rfl ?_
          refine J_sub [2, 3, 4, 1, 0] (lv1 := [(0, .ref (ad 0 0)), (1, .int a1), (2, .int x3), (3, .int x7), (4, .int x12)]) rfl ?_
          exact kj22 _ h
def mX7_receiveAppend (a1 : Int32) (μ : gM) : Option gM :=
  gLet (α := Int32) (μ 4 0 5) fun x1 =>
  gBp (mX7_last a1 μ) fun r6 =>
  gLet (α := Int32) (if x1 ≤ r6 then 0 else 1) fun x7 =>
  gJon (fun (u21 : Unit) =>
      gBp (mX7_last a1 μ) fun r13 =>
      gJon (fun (x14 : Int32) =>
          gBp (mX7_answer a1 x14 0 μ) fun μ17 =>
          some μ17) fun j15 =>
      if (x1 - 1) ≤ r13 then
        j15 (x1 - 1)
      else
        gBp (mX7_last a1 μ) fun r20 =>
        j15 r20) fun j11 =>
  if x7 = 0 then
    gBp (mX7_of a1 7 μ) fun r24 =>
    gJon (fun (u46 : Unit) =>
        gBd (mX7_take a1 μ) fun r27 μ28 =>
        gLet (α := Int32) (x1 + r27) fun x29 =>
        gLet (α := Int32) (if x29 ≤ (μ28 4 0 9) then x29 else μ28 4 0 9) fun x33 =>
        gBp (mX7_of a1 4 μ28) fun r38 =>
        gJon (fun (μ39 : gM) =>
            gBp (mX7_answer a1 x29 1 μ39) fun μ42 =>
            some μ42) fun j40 =>
        if x33 ≤ r38 then
          j40 μ28
        else
          gBp (mX7_set a1 4 x33 μ28) fun μ45 =>
          j40 μ45) fun j25 =>
    if x1 ≤ r24 then
      j25 () 
    else
      gBp (mX7_termAt a1 x1 μ) fun r49 =>
      if r49 = (μ 4 0 8) then
        j25 () 
      else
        j11 () 
  else
    j11 () 
set_option maxHeartbeats 4000000 in
set_option maxRecDepth 100000 in
theorem kX7_receiveAppend (l : Launch) (D : va_G) (tc : Nat → ClassId) (sa : Nat → Nat) (ad : Nat → Nat → Nat) (hI : gI gE_R ad) (a1 : Int32) (μ : gM) (μ' : gM) (h : mX7_receiveAppend a1 μ = some μ') : gMet l yX7_receiveAppend cX7_receiveAppend 6 (none) ({ frames := 4, cells := 0, slots := 0, locals := 91 } : Room) D gE_R gkd_R tc ad grh_R sa [.ref (ad 0 0), .int a1] μ (none) μ' := by
  refine gMet_of hI ⟨by decide +kernel, Nat.le_of_ble_eq_true rfl⟩ (fun p e s m args below meth c sz hr hlk => ?_)
  unfold mX7_receiveAppend at h
  show JR p l e ({ frames := 4, cells := 0, slots := 0, locals := 91 } : Room) s m args below meth c cX7_receiveAppend 6 RX7 D tc sa ad sz (none) μ' μ 0 [(0, .ref (ad 0 0)), (1, .int a1)] []
  refine J_aload_n (i := 0) (q := 0) (pc1 := 1) dX7_receiveAppend_0 rfl rfl rfl ?_
  refine J_getR (T := TX7) (f' := 4) (i' := 0) (pc1 := 4) eR0 rfl rfl inX7 4 (by decide) rfl rfl flX7_16 rfl dX7_receiveAppend_1 rfl ?_
  refine J_iconst (v := 5) (pc1 := 5) dX7_receiveAppend_4 (by decide) rfl ?_
  refine J_iald (ix := 5) (pc1 := 6) (by decide) eR4 rfl (by decide : inb 5 25) dX7_receiveAppend_5 rfl ?_
  obtain ⟨x1, e3, h⟩ := gLet_s h
  refine J_top (fun y2 e4 => ?_)
  have e4x : x1 = y2 := (e4.trans e3.symm).symm
  subst e4x
  refine J_istore_n (i := 2) (lv1 := [(2, .int x1), (0, .ref (ad 0 0)), (1, .int a1)]) (pc1 := 7) dX7_receiveAppend_6 rfl (by decide) rfl rfl ?_
  refine J_iload_n (i := 2) (q := 0) (pc1 := 8) dX7_receiveAppend_7 rfl rfl rfl ?_
  refine J_aload_n (i := 0) (q := 1) (pc1 := 9) dX7_receiveAppend_8 rfl rfl rfl ?_
  refine J_iload_n (i := 1) (q := 2) (pc1 := 10) dX7_receiveAppend_9 rfl rfl rfl ?_
  obtain ⟨r6, hc5, h⟩ := gBp_s h
  refine J_callV (As := [.int a1]) (ad := ad) (f := 0) (i := 0) (st := [.int x1]) (st1 := [.int r6, .int x1]) (pc1 := 13) (kX7_last l D tc sa ad hI a1 μ r6 hc5) wcX7_last wlX7_67 eR0 rfl rfl rfl ⟨rfl, rfl, Nat.le_of_ble_eq_true rfl, Nat.le_of_ble_eq_true rfl⟩ ⟨Nat.zero_le _, Nat.zero_le _⟩ (Nat.le_of_ble_eq_true rfl) dX7_receiveAppend_10 rfl rfl ?_
  obtain ⟨x7, e8, h⟩ := gLet_s h
  have k9 : JR p l e ({ frames := 4, cells := 0, slots := 0, locals := 91 } : Room) s m args below meth c cX7_receiveAppend 6 RX7 D tc sa ad sz (none) μ' μ 21 [(2, .int x1), (0, .ref (ad 0 0)), (1, .int a1)] [.int x7] := by
    refine J_istore_n (i := 3) (lv1 := [(3, .int x7), (2, .int x1), (0, .ref (ad 0 0)), (1, .int a1)]) (pc1 := 22) dX7_receiveAppend_21 rfl (by decide) rfl rfl ?_
    refine J_iload_n (i := 3) (q := 0) (pc1 := 23) dX7_receiveAppend_22 rfl rfl rfl ?_
    obtain ⟨j11, ej11, h⟩ := gJon_s h
    have kj11 : ∀ (u21 : Unit), j11 u21 = some μ' → JR p l e ({ frames := 4, cells := 0, slots := 0, locals := 91 } : Room) s m args below meth c cX7_receiveAppend 6 RX7 D tc sa ad sz (none) μ' μ 53 [(0, .ref (ad 0 0)), (1, .int a1), (2, .int x1)] [] := by
      intro u21 h
      rw [ej11] at h
      try dsimp only at h
      refine J_aload_n (i := 0) (q := 0) (pc1 := 54) dX7_receiveAppend_53 rfl rfl rfl ?_
      refine J_iload_n (i := 1) (q := 1) (pc1 := 55) dX7_receiveAppend_54 rfl rfl rfl ?_
      refine J_aload_n (i := 0) (q := 0) (pc1 := 56) dX7_receiveAppend_55 rfl rfl rfl ?_
      refine J_iload_n (i := 1) (q := 1) (pc1 := 57) dX7_receiveAppend_56 rfl rfl rfl ?_
      obtain ⟨r13, hc12, h⟩ := gBp_s h
      refine J_callV (As := [.int a1]) (ad := ad) (f := 0) (i := 0) (st := [.int a1, .ref (ad 0 0)]) (st1 := [.int r13, .int a1, .ref (ad 0 0)]) (pc1 := 60) (kX7_last l D tc sa ad hI a1 μ r13 hc12) wcX7_last wlX7_67 eR0 rfl rfl rfl ⟨rfl, rfl, Nat.le_of_ble_eq_true rfl, Nat.le_of_ble_eq_true rfl⟩ ⟨Nat.zero_le _, Nat.zero_le _⟩ (Nat.le_of_ble_eq_true rfl) dX7_receiveAppend_57 rfl rfl ?_
      refine J_iload_n (i := 2) (q := 2) (pc1 := 61) dX7_receiveAppend_60 rfl rfl rfl ?_
      refine J_iconst (v := 1) (pc1 := 62) dX7_receiveAppend_61 (by decide) rfl ?_
      refine J_isub (pc1 := 63) dX7_receiveAppend_62 rfl ?_
      obtain ⟨j15, ej15, h⟩ := gJon_s h
      have kj15 : ∀ (x14 : Int32), j15 x14 = some μ' → JR p l e ({ frames := 4, cells := 0, slots := 0, locals := 91 } : Room) s m args below meth c cX7_receiveAppend 6 RX7 D tc sa ad sz (none) μ' μ 77 [] [.int x14, .int a1, .ref (ad 0 0)] := by
        intro x14 h
        rw [ej15] at h
        try dsimp only at h
        refine J_iconst (v := 0) (pc1 := 78) dX7_receiveAppend_77 (by decide) rfl ?_
        obtain ⟨μ17, hc16, h⟩ := gBp_s h
        refine J_callV (As := [.int a1, .int x14, .int 0]) (ad := ad) (f := 0) (i := 0) (st := []) (st1 := []) (pc1 := 81) (kX7_answer l D tc sa ad hI a1 x14 0 μ μ17 hc16) wcX7_answer wlX7_136 eR0 rfl rfl rfl ⟨rfl, rfl, Nat.le_of_ble_eq_true rfl, Nat.le_of_ble_eq_true rfl⟩ ⟨Nat.zero_le _, Nat.zero_le _⟩ (Nat.le_of_ble_eq_true rfl) dX7_receiveAppend_78 rfl rfl ?_
        cases h
        exact J_vret hr hlk dX7_receiveAppend_81
      clear ej15
      refine J_icmp_ge (tgt := 74) (pc1 := 66) dX7_receiveAppend_63 (by decide) (fun q18 => ?_) rfl (fun q18 => ?_)
      · rw [if_pos q18] at h
        refine J_iload_n (i := 2) (q := 2) (pc1 := 75) dX7_receiveAppend_74 rfl rfl rfl ?_
        refine J_iconst (v := 1) (pc1 := 76) dX7_receiveAppend_75 (by decide) rfl ?_
        refine J_isub (pc1 := 77) dX7_receiveAppend_76 rfl ?_
        refine J_sub [] (lv1 := []) rfl ?_
        exact kj15 _ h
      · rw [if_neg q18] at h
        refine J_aload_n (i := 0) (q := 0) (pc1 := 67) dX7_receiveAppend_66 rfl rfl rfl ?_
        refine J_iload_n (i := 1) (q := 1) (pc1 := 68) dX7_receiveAppend_67 rfl rfl rfl ?_
        obtain ⟨r20, hc19, h⟩ := gBp_s h
        refine J_callV (As := [.int a1]) (ad := ad) (f := 0) (i := 0) (st := [.int a1, .ref (ad 0 0)]) (st1 := [.int r20, .int a1, .ref (ad 0 0)]) (pc1 := 71) (kX7_last l D tc sa ad hI a1 μ r20 hc19) wcX7_last wlX7_67 eR0 rfl rfl rfl ⟨rfl, rfl, Nat.le_of_ble_eq_true rfl, Nat.le_of_ble_eq_true rfl⟩ ⟨Nat.zero_le _, Nat.zero_le _⟩ (Nat.le_of_ble_eq_true rfl) dX7_receiveAppend_68 rfl rfl ?_
        refine J_goto (tgt := 77) dX7_receiveAppend_71 (by decide) ?_
        refine J_sub [] (lv1 := []) rfl ?_
        exact kj15 _ h
    clear ej11
    refine J_if_ne (tgt := 53) (pc1 := 26) dX7_receiveAppend_23 (by decide) (fun q22 => ?_) rfl (fun q22 => ?_)
    · rw [if_neg q22] at h
      refine J_sub [2, 3, 1] (lv1 := [(0, .ref (ad 0 0)), (1, .int a1), (2, .int x1)]) rfl ?_
      exact kj11 ()  h
    · rw [if_pos q22] at h
      refine J_iload_n (i := 2) (q := 1) (pc1 := 27) dX7_receiveAppend_26 rfl rfl rfl ?_
      refine J_aload_n (i := 0) (q := 2) (pc1 := 28) dX7_receiveAppend_27 rfl rfl rfl ?_
      refine J_iload_n (i := 1) (q := 3) (pc1 := 29) dX7_receiveAppend_28 rfl rfl rfl ?_
      refine J_bipush (v := 7) (pc1 := 31) dX7_receiveAppend_29 (by decide) rfl ?_
      obtain ⟨r24, hc23, h⟩ := gBp_s h
      refine J_callV (As := [.int a1, .int 7]) (ad := ad) (f := 0) (i := 0) (st := [.int x1]) (st1 := [.int r24, .int x1]) (pc1 := 34) (kX7_of l D tc sa ad hI a1 7 μ r24 hc23) wcX7_of wlX7_38 eR0 rfl rfl rfl ⟨rfl, rfl, Nat.le_of_ble_eq_true rfl, Nat.le_of_ble_eq_true rfl⟩ ⟨Nat.zero_le _, Nat.zero_le _⟩ (Nat.le_of_ble_eq_true rfl) dX7_receiveAppend_31 rfl rfl ?_
      obtain ⟨j25, ej25, h⟩ := gJon_s h
      have kj25 : ∀ (u46 : Unit), j25 u46 = some μ' → JR p l e ({ frames := 4, cells := 0, slots := 0, locals := 91 } : Room) s m args below meth c cX7_receiveAppend 6 RX7 D tc sa ad sz (none) μ' μ 82 [(0, .ref (ad 0 0)), (1, .int a1), (2, .int x1)] [] := by
        intro u46 h
        rw [ej25] at h
        try dsimp only at h
        refine J_iload_n (i := 2) (q := 2) (pc1 := 83) dX7_receiveAppend_82 rfl rfl rfl ?_
        refine J_aload_n (i := 0) (q := 0) (pc1 := 84) dX7_receiveAppend_83 rfl rfl rfl ?_
        refine J_iload_n (i := 1) (q := 1) (pc1 := 85) dX7_receiveAppend_84 rfl rfl rfl ?_
        obtain ⟨r27, μ28, hc26, h⟩ := gBd_s h
        refine J_callV (As := [.int a1]) (ad := ad) (f := 0) (i := 0) (st := [.int x1]) (st1 := [.int r27, .int x1]) (pc1 := 88) (kX7_take l D tc sa ad hI a1 μ r27 μ28 hc26) wcX7_take wlX7_139 eR0 rfl rfl rfl ⟨rfl, rfl, Nat.le_of_ble_eq_true rfl, Nat.le_of_ble_eq_true rfl⟩ ⟨Nat.zero_le _, Nat.zero_le _⟩ (Nat.le_of_ble_eq_true rfl) dX7_receiveAppend_85 rfl rfl ?_
        refine J_iadd (pc1 := 89) dX7_receiveAppend_88 rfl ?_
        obtain ⟨x29, e31, h⟩ := gLet_s h
        refine J_top (fun y30 e32 => ?_)
        have e32x : x29 = y30 := (e32.trans e31.symm).symm
        subst e32x
        refine J_istore (i := 4) (lv1 := [(4, .int x29), (0, .ref (ad 0 0)), (1, .int a1), (2, .int x1)]) (pc1 := 91) dX7_receiveAppend_89 (by decide) rfl rfl ?_
        refine J_aload_n (i := 0) (q := 1) (pc1 := 92) dX7_receiveAppend_91 rfl rfl rfl ?_
        refine J_getR (T := TX7) (f' := 4) (i' := 0) (pc1 := 95) eR0 rfl rfl inX7 4 (by decide) rfl rfl flX7_16 rfl dX7_receiveAppend_92 rfl ?_
        refine J_bipush (v := 9) (pc1 := 97) dX7_receiveAppend_95 (by decide) rfl ?_
        refine J_iald (ix := 9) (pc1 := 98) (by decide) eR4 rfl (by decide : inb 9 25) dX7_receiveAppend_97 rfl ?_
        refine J_iload (i := 4) (q := 0) (pc1 := 100) dX7_receiveAppend_98 rfl rfl ?_
        obtain ⟨x33, e34, h⟩ := gLet_s h
        have k35 : JR p l e ({ frames := 4, cells := 0, slots := 0, locals := 91 } : Room) s m args below meth c cX7_receiveAppend 6 RX7 D tc sa ad sz (none) μ' μ28 115 [(4, .int x29), (0, .ref (ad 0 0)), (1, .int a1), (2, .int x1)] [.int x33] := by
          refine J_istore (i := 5) (lv1 := [(5, .int x33), (4, .int x29), (0, .ref (ad 0 0)), (1, .int a1), (2, .int x1)]) (pc1 := 117) dX7_receiveAppend_115 (by decide) rfl rfl ?_
          refine J_iload (i := 5) (q := 0) (pc1 := 119) dX7_receiveAppend_117 rfl rfl ?_
          refine J_aload_n (i := 0) (q := 2) (pc1 := 120) dX7_receiveAppend_119 rfl rfl rfl ?_
          refine J_iload_n (i := 1) (q := 3) (pc1 := 121) dX7_receiveAppend_120 rfl rfl rfl ?_
          refine J_iconst (v := 4) (pc1 := 122) dX7_receiveAppend_121 (by decide) rfl ?_
          obtain ⟨r38, hc37, h⟩ := gBp_s h
          refine J_callV (As := [.int a1, .int 4]) (ad := ad) (f := 0) (i := 0) (st := [.int x33]) (st1 := [.int r38, .int x33]) (pc1 := 125) (kX7_of l D tc sa ad hI a1 4 μ28 r38 hc37) wcX7_of wlX7_38 eR0 rfl rfl rfl ⟨rfl, rfl, Nat.le_of_ble_eq_true rfl, Nat.le_of_ble_eq_true rfl⟩ ⟨Nat.zero_le _, Nat.zero_le _⟩ (Nat.le_of_ble_eq_true rfl) dX7_receiveAppend_122 rfl rfl ?_
          obtain ⟨j40, ej40, h⟩ := gJon_s h
          have kj40 : ∀ (μ39 : gM), j40 μ39 = some μ' → JR p l e ({ frames := 4, cells := 0, slots := 0, locals := 91 } : Room) s m args below meth c cX7_receiveAppend 6 RX7 D tc sa ad sz (none) μ' μ39 136 [(0, .ref (ad 0 0)), (1, .int a1), (4, .int x29)] [] := by
            intro μ39 h
            rw [ej40] at h
            try dsimp only at h
            refine J_aload_n (i := 0) (q := 0) (pc1 := 137) dX7_receiveAppend_136 rfl rfl rfl ?_
            refine J_iload_n (i := 1) (q := 1) (pc1 := 138) dX7_receiveAppend_137 rfl rfl rfl ?_
            refine J_iload (i := 4) (q := 2) (pc1 := 140) dX7_receiveAppend_138 rfl rfl ?_
            refine J_iconst (v := 1) (pc1 := 141) dX7_receiveAppend_140 (by decide) rfl ?_
            obtain ⟨μ42, hc41, h⟩ := gBp_s h
            refine J_callV (As := [.int a1, .int x29, .int 1]) (ad := ad) (f := 0) (i := 0) (st := []) (st1 := []) (pc1 := 144) (kX7_answer l D tc sa ad hI a1 x29 1 μ39 μ42 hc41) wcX7_answer wlX7_136 eR0 rfl rfl rfl ⟨rfl, rfl, Nat.le_of_ble_eq_true rfl, Nat.le_of_ble_eq_true rfl⟩ ⟨Nat.zero_le _, Nat.zero_le _⟩ (Nat.le_of_ble_eq_true rfl) dX7_receiveAppend_141 rfl rfl ?_
            cases h
            exact J_vret hr hlk dX7_receiveAppend_144
          clear ej40
          refine J_icmp_le (tgt := 136) (pc1 := 128) dX7_receiveAppend_125 (by decide) (fun q43 => ?_) rfl (fun q43 => ?_)
          · rw [if_pos q43] at h
            refine J_sub [2, 3, 1] (lv1 := [(0, .ref (ad 0 0)), (1, .int a1), (4, .int x29)]) rfl ?_
            exact kj40 _ h
          · rw [if_neg q43] at h
            refine J_aload_n (i := 0) (q := 2) (pc1 := 129) dX7_receiveAppend_128 rfl rfl rfl ?_
            refine J_iload_n (i := 1) (q := 3) (pc1 := 130) dX7_receiveAppend_129 rfl rfl rfl ?_
            refine J_iconst (v := 4) (pc1 := 131) dX7_receiveAppend_130 (by decide) rfl ?_
            refine J_iload (i := 5) (q := 0) (pc1 := 133) dX7_receiveAppend_131 rfl rfl ?_
            obtain ⟨μ45, hc44, h⟩ := gBp_s h
            refine J_callV (As := [.int a1, .int 4, .int x33]) (ad := ad) (f := 0) (i := 0) (st := []) (st1 := []) (pc1 := 136) (kX7_set l D tc sa ad hI a1 4 x33 μ28 μ45 hc44) wcX7_set wlX7_43 eR0 rfl rfl rfl ⟨rfl, rfl, Nat.le_of_ble_eq_true rfl, Nat.le_of_ble_eq_true rfl⟩ ⟨Nat.zero_le _, Nat.zero_le _⟩ (Nat.le_of_ble_eq_true rfl) dX7_receiveAppend_133 rfl rfl ?_
            refine J_sub [2, 3, 1] (lv1 := [(0, .ref (ad 0 0)), (1, .int a1), (4, .int x29)]) rfl ?_
            exact kj40 _ h
        refine J_icmp_ge (tgt := 113) (pc1 := 103) dX7_receiveAppend_100 (by decide) (fun q36 => ?_) rfl (fun q36 => ?_)
        · rw [if_pos q36] at e34
          subst e34
          refine J_iload (i := 4) (q := 0) (pc1 := 115) dX7_receiveAppend_113 rfl rfl ?_
          exact k35
        · rw [if_neg q36] at e34
          subst e34
          refine J_aload_n (i := 0) (q := 1) (pc1 := 104) dX7_receiveAppend_103 rfl rfl rfl ?_
          refine J_getR (T := TX7) (f' := 4) (i' := 0) (pc1 := 107) eR0 rfl rfl inX7 4 (by decide) rfl rfl flX7_16 rfl dX7_receiveAppend_104 rfl ?_
          refine J_bipush (v := 9) (pc1 := 109) dX7_receiveAppend_107 (by decide) rfl ?_
          refine J_iald (ix := 9) (pc1 := 110) (by decide) eR4 rfl (by decide : inb 9 25) dX7_receiveAppend_109 rfl ?_
          refine J_goto (tgt := 115) dX7_receiveAppend_110 (by decide) ?_
          exact k35
      clear ej25
      refine J_icmp_le (tgt := 82) (pc1 := 37) dX7_receiveAppend_34 (by decide) (fun q47 => ?_) rfl (fun q47 => ?_)
      · rw [if_pos q47] at h
        refine J_sub [2, 3, 1] (lv1 := [(0, .ref (ad 0 0)), (1, .int a1), (2, .int x1)]) rfl ?_
        exact kj25 ()  h
      · rw [if_neg q47] at h
        refine J_aload_n (i := 0) (q := 2) (pc1 := 38) dX7_receiveAppend_37 rfl rfl rfl ?_
        refine J_iload_n (i := 1) (q := 3) (pc1 := 39) dX7_receiveAppend_38 rfl rfl rfl ?_
        refine J_iload_n (i := 2) (q := 1) (pc1 := 40) dX7_receiveAppend_39 rfl rfl rfl ?_
        obtain ⟨r49, hc48, h⟩ := gBp_s h
        refine J_callV (As := [.int a1, .int x1]) (ad := ad) (f := 0) (i := 0) (st := []) (st1 := [.int r49]) (pc1 := 43) (kX7_termAt l D tc sa ad hI a1 x1 μ r49 hc48) wcX7_termAt wlX7_99 eR0 rfl rfl rfl ⟨rfl, rfl, Nat.le_of_ble_eq_true rfl, Nat.le_of_ble_eq_true rfl⟩ ⟨Nat.zero_le _, Nat.zero_le _⟩ (Nat.le_of_ble_eq_true rfl) dX7_receiveAppend_40 rfl rfl ?_
        refine J_aload_n (i := 0) (q := 2) (pc1 := 44) dX7_receiveAppend_43 rfl rfl rfl ?_
        refine J_getR (T := TX7) (f' := 4) (i' := 0) (pc1 := 47) eR0 rfl rfl inX7 4 (by decide) rfl rfl flX7_16 rfl dX7_receiveAppend_44 rfl ?_
        refine J_bipush (v := 8) (pc1 := 49) dX7_receiveAppend_47 (by decide) rfl ?_
        refine J_iald (ix := 8) (pc1 := 50) (by decide) eR4 rfl (by decide : inb 8 25) dX7_receiveAppend_49 rfl ?_
        refine J_icmp_eq (tgt := 82) (pc1 := 53) dX7_receiveAppend_50 (by decide) (fun q50 => ?_) rfl (fun q50 => ?_)
        · rw [if_pos q50] at h
          refine J_sub [2, 3, 1] (lv1 := [(0, .ref (ad 0 0)), (1, .int a1), (2, .int x1)]) rfl ?_
          exact kj25 ()  h
        · rw [if_neg q50] at h
          refine J_sub [2, 3, 1] (lv1 := [(0, .ref (ad 0 0)), (1, .int a1), (2, .int x1)]) rfl ?_
          exact kj11 ()  h
  refine J_icmp_le (tgt := 20) (pc1 := 16) dX7_receiveAppend_13 (by decide) (fun q10 => ?_) rfl (fun q10 => ?_)
  · rw [if_pos q10] at e8
    subst e8
    refine J_iconst (v := 0) (pc1 := 21) dX7_receiveAppend_20 (by decide) rfl ?_
    exact k9
  · rw [if_neg q10] at e8
    subst e8
    refine J_iconst (v := 1) (pc1 := 17) dX7_receiveAppend_16 (by decide) rfl ?_
    refine J_goto (tgt := 21) dX7_receiveAppend_17 (by decide) ?_
    exact k9
def mX7_dropFirst (a1 : Int32) (a2 : Int32) (μ : gM) : Option gM :=
  gBp (mX7_of a1 12 μ) fun r2 =>
  gLet (α := Int32) (r2 - a2) fun x3 =>
  gJon (fun (μ7 : gM) =>
      gBp (mX7_set a1 12 x3 μ7) fun μ10 =>
      some μ10) fun j8 =>
  gFx2 (fun rec13 (x11 : Int32) (μ12 : gM) =>
      if (3 * x3) ≤ x11 then
        j8 μ12
      else
        gBp (mX7_of a1 ((28 + x11) + (3 * a2)) μ12) fun r16 =>
        gBp (mX7_set a1 (28 + x11) r16 μ12) fun μ18 =>
        rec13 (x11 + 1) μ18) 1000000 0 μ
set_option maxHeartbeats 4000000 in
set_option maxRecDepth 100000 in
theorem kX7_dropFirst (l : Launch) (D : va_G) (tc : Nat → ClassId) (sa : Nat → Nat) (ad : Nat → Nat → Nat) (hI : gI gE_R ad) (a1 : Int32) (a2 : Int32) (μ : gM) (μ' : gM) (h : mX7_dropFirst a1 a2 μ = some μ') : gMet l yX7_dropFirst cX7_dropFirst 5 (none) ({ frames := 1, cells := 0, slots := 0, locals := 23 } : Room) D gE_R gkd_R tc ad grh_R sa [.ref (ad 0 0), .int a1, .int a2] μ (none) μ' := by
  refine gMet_of hI ⟨by decide +kernel, Nat.le_of_ble_eq_true rfl⟩ (fun p e s m args below meth c sz hr hlk => ?_)
  unfold mX7_dropFirst at h
  show JR p l e ({ frames := 1, cells := 0, slots := 0, locals := 23 } : Room) s m args below meth c cX7_dropFirst 5 RX7 D tc sa ad sz (none) μ' μ 0 [(0, .ref (ad 0 0)), (1, .int a1), (2, .int a2)] []
  refine J_aload_n (i := 0) (q := 0) (pc1 := 1) dX7_dropFirst_0 rfl rfl rfl ?_
  refine J_iload_n (i := 1) (q := 1) (pc1 := 2) dX7_dropFirst_1 rfl rfl rfl ?_
  refine J_bipush (v := 12) (pc1 := 4) dX7_dropFirst_2 (by decide) rfl ?_
  obtain ⟨r2, hc1, h⟩ := gBp_s h
  refine J_callV (As := [.int a1, .int 12]) (ad := ad) (f := 0) (i := 0) (st := []) (st1 := [.int r2]) (pc1 := 7) (kX7_of l D tc sa ad hI a1 12 μ r2 hc1) wcX7_of wlX7_38 eR0 rfl rfl rfl ⟨rfl, rfl, Nat.le_of_ble_eq_true rfl, Nat.le_of_ble_eq_true rfl⟩ ⟨Nat.zero_le _, Nat.zero_le _⟩ (Nat.le_of_ble_eq_true rfl) dX7_dropFirst_4 rfl rfl ?_
  refine J_iload_n (i := 2) (q := 2) (pc1 := 8) dX7_dropFirst_7 rfl rfl rfl ?_
  refine J_isub (pc1 := 9) dX7_dropFirst_8 rfl ?_
  obtain ⟨x3, e5, h⟩ := gLet_s h
  refine J_top (fun y4 e6 => ?_)
  have e6x : x3 = y4 := (e6.trans e5.symm).symm
  subst e6x
  refine J_istore_n (i := 3) (lv1 := [(3, .int x3), (0, .ref (ad 0 0)), (1, .int a1), (2, .int a2)]) (pc1 := 10) dX7_dropFirst_9 rfl (by decide) rfl rfl ?_
  refine J_iconst (v := 0) (pc1 := 11) dX7_dropFirst_10 (by decide) rfl ?_
  refine J_istore (i := 4) (lv1 := [(4, .int 0), (3, .int x3), (0, .ref (ad 0 0)), (1, .int a1), (2, .int a2)]) (pc1 := 13) dX7_dropFirst_11 (by decide) rfl rfl ?_
  obtain ⟨j8, ej8, h⟩ := gJon_s h
  have kj8 : ∀ (μ7 : gM), j8 μ7 = some μ' → JR p l e ({ frames := 1, cells := 0, slots := 0, locals := 23 } : Room) s m args below meth c cX7_dropFirst 5 RX7 D tc sa ad sz (none) μ' μ7 51 [(0, .ref (ad 0 0)), (1, .int a1), (3, .int x3)] [] := by
    intro μ7 h
    rw [ej8] at h
    try dsimp only at h
    refine J_aload_n (i := 0) (q := 0) (pc1 := 52) dX7_dropFirst_51 rfl rfl rfl ?_
    refine J_iload_n (i := 1) (q := 1) (pc1 := 53) dX7_dropFirst_52 rfl rfl rfl ?_
    refine J_bipush (v := 12) (pc1 := 55) dX7_dropFirst_53 (by decide) rfl ?_
    refine J_iload_n (i := 3) (q := 2) (pc1 := 56) dX7_dropFirst_55 rfl rfl rfl ?_
    obtain ⟨μ10, hc9, h⟩ := gBp_s h
    refine J_callV (As := [.int a1, .int 12, .int x3]) (ad := ad) (f := 0) (i := 0) (st := []) (st1 := []) (pc1 := 59) (kX7_set l D tc sa ad hI a1 12 x3 μ7 μ10 hc9) wcX7_set wlX7_43 eR0 rfl rfl rfl ⟨rfl, rfl, Nat.le_of_ble_eq_true rfl, Nat.le_of_ble_eq_true rfl⟩ ⟨Nat.zero_le _, Nat.zero_le _⟩ (Nat.le_of_ble_eq_true rfl) dX7_dropFirst_56 rfl rfl ?_
    cases h
    exact J_vret hr hlk dX7_dropFirst_59
  clear ej8
  refine J_sub [2, 3, 4, 1, 0] (lv1 := [(0, .ref (ad 0 0)), (1, .int a1), (2, .int a2), (3, .int x3), (4, .int 0)]) rfl ?_
  refine gFx2_s (P := fun x11 μ12 => JR p l e ({ frames := 1, cells := 0, slots := 0, locals := 23 } : Room) s m args below meth c cX7_dropFirst 5 RX7 D tc sa ad sz (none) μ' μ12 13 [(0, .ref (ad 0 0)), (1, .int a1), (2, .int a2), (3, .int x3), (4, .int x11)] []) (fun rec13 ihrec13 x11 μ12 h => ?_) _ _ _ h
  try dsimp only at h
  refine J_iload (i := 4) (q := 4) (pc1 := 15) dX7_dropFirst_13 rfl rfl ?_
  refine J_iconst (v := 3) (pc1 := 16) dX7_dropFirst_15 (by decide) rfl ?_
  refine J_iload_n (i := 3) (q := 3) (pc1 := 17) dX7_dropFirst_16 rfl rfl rfl ?_
  refine J_imul (pc1 := 18) dX7_dropFirst_17 rfl ?_
  refine J_icmp_ge (tgt := 51) (pc1 := 21) dX7_dropFirst_18 (by decide) (fun q14 => ?_) rfl (fun q14 => ?_)
  · rw [if_pos q14] at h
    refine J_sub [0, 1, 3] (lv1 := [(0, .ref (ad 0 0)), (1, .int a1), (3, .int x3)]) rfl ?_
    exact kj8 _ h
  · rw [if_neg q14] at h
    refine J_aload_n (i := 0) (q := 0) (pc1 := 22) dX7_dropFirst_21 rfl rfl rfl ?_
    refine J_iload_n (i := 1) (q := 1) (pc1 := 23) dX7_dropFirst_22 rfl rfl rfl ?_
    refine J_bipush (v := 28) (pc1 := 25) dX7_dropFirst_23 (by decide) rfl ?_
    refine J_iload (i := 4) (q := 4) (pc1 := 27) dX7_dropFirst_25 rfl rfl ?_
    refine J_iadd (pc1 := 28) dX7_dropFirst_27 rfl ?_
    refine J_aload_n (i := 0) (q := 0) (pc1 := 29) dX7_dropFirst_28 rfl rfl rfl ?_
    refine J_iload_n (i := 1) (q := 1) (pc1 := 30) dX7_dropFirst_29 rfl rfl rfl ?_
    refine J_bipush (v := 28) (pc1 := 32) dX7_dropFirst_30 (by decide) rfl ?_
    refine J_iload (i := 4) (q := 4) (pc1 := 34) dX7_dropFirst_32 rfl rfl ?_
    refine J_iadd (pc1 := 35) dX7_dropFirst_34 rfl ?_
    refine J_iconst (v := 3) (pc1 := 36) dX7_dropFirst_35 (by decide) rfl ?_
    refine J_iload_n (i := 2) (q := 2) (pc1 := 37) dX7_dropFirst_36 rfl rfl rfl ?_
    refine J_imul (pc1 := 38) dX7_dropFirst_37 rfl ?_
    refine J_iadd (pc1 := 39) dX7_dropFirst_38 rfl ?_
    obtain ⟨r16, hc15, h⟩ := gBp_s h
    refine J_callV (As := [.int a1, .int ((28 + x11) + (3 * a2))]) (ad := ad) (f := 0) (i := 0) (st := [.int (28 + x11), .int a1, .ref (ad 0 0)]) (st1 := [.int r16, .int (28 + x11), .int a1, .ref (ad 0 0)]) (pc1 := 42) (kX7_of l D tc sa ad hI a1 ((28 + x11) + (3 * a2)) μ12 r16 hc15) wcX7_of wlX7_38 eR0 rfl rfl rfl ⟨rfl, rfl, Nat.le_of_ble_eq_true rfl, Nat.le_of_ble_eq_true rfl⟩ ⟨Nat.zero_le _, Nat.zero_le _⟩ (Nat.le_of_ble_eq_true rfl) dX7_dropFirst_39 rfl rfl ?_
    obtain ⟨μ18, hc17, h⟩ := gBp_s h
    refine J_callV (As := [.int a1, .int (28 + x11), .int r16]) (ad := ad) (f := 0) (i := 0) (st := []) (st1 := []) (pc1 := 45) (kX7_set l D tc sa ad hI a1 (28 + x11) r16 μ12 μ18 hc17) wcX7_set wlX7_43 eR0 rfl rfl rfl ⟨rfl, rfl, Nat.le_of_ble_eq_true rfl, Nat.le_of_ble_eq_true rfl⟩ ⟨Nat.zero_le _, Nat.zero_le _⟩ (Nat.le_of_ble_eq_true rfl) dX7_dropFirst_42 rfl rfl ?_
    refine J_iinc (i := 4) (q := 4) (v := x11 + 1) (lv1 := [(4, .int (x11 + 1)), (0, .ref (ad 0 0)), (1, .int a1), (2, .int a2), (3, .int x3)]) (pc1 := 48) dX7_dropFirst_45 rfl rfl (by decide) rfl rfl ?_
    refine J_goto (tgt := 13) dX7_dropFirst_48 (by decide) ?_
    refine J_sub [1, 2, 3, 4, 0] (lv1 := [(0, .ref (ad 0 0)), (1, .int a1), (2, .int a2), (3, .int x3), (4, .int (x11 + 1))]) rfl ?_
    exact ihrec13 _ _ h
def mX7_receiveSnapshot (a1 : Int32) (μ : gM) : Option gM :=
  gBp (mX7_of a1 4 μ) fun r2 =>
  gJon (fun (μ3 : gM) =>
      gBp (mX7_of a1 4 μ3) fun r6 =>
      gBp (mX7_answer a1 r6 1 μ3) fun μ8 =>
      some μ8) fun j4 =>
  if (μ 4 0 5) ≤ r2 then
    j4 μ
  else
    gBp (mX7_last a1 μ) fun r11 =>
    gJon (fun (x12 : Int32) =>
        gJon (fun (x14 : Int32) =>
            gBp (mX7_dropFirst a1 x14 μ) fun μ17 =>
            gBp (mX7_set a1 7 (μ17 4 0 5) μ17) fun μ19 =>
            gBp (mX7_set a1 8 (μ19 4 0 6) μ19) fun μ21 =>
            gBp (mX7_set a1 9 (μ21 4 0 10) μ21) fun μ23 =>
            gBp (mX7_set a1 10 (μ23 4 0 11) μ23) fun μ25 =>
            gBp (mX7_set a1 11 (μ25 4 0 12) μ25) fun μ27 =>
            gBp (mX7_set a1 4 (μ27 4 0 5) μ27) fun μ29 =>
            gBp (mX7_tally 6 1 μ29) fun μ31 =>
            j4 μ31) fun j15 =>
        if x12 = 0 then
          gBp (mX7_of a1 12 μ) fun r34 =>
          j15 r34
        else
          gBp (mX7_of a1 7 μ) fun r36 =>
          j15 ((μ 4 0 5) - r36)) fun j13 =>
    gJon (fun (u38 : Unit) =>
        j13 0) fun j37 =>
    if r11 < (μ 4 0 5) then
      j37 () 
    else
      gBp (mX7_termAt a1 (μ 4 0 5) μ) fun r41 =>
      gLet (α := Int32) (if r41 = (μ 4 0 6) then 1 else 0) fun x42 =>
      gJon (fun (x46 : Int32) =>
          gBp (mX7_dropFirst a1 x46 μ) fun μ49 =>
          gBp (mX7_set a1 7 (μ49 4 0 5) μ49) fun μ51 =>
          gBp (mX7_set a1 8 (μ51 4 0 6) μ51) fun μ53 =>
          gBp (mX7_set a1 9 (μ53 4 0 10) μ53) fun μ55 =>
          gBp (mX7_set a1 10 (μ55 4 0 11) μ55) fun μ57 =>
          gBp (mX7_set a1 11 (μ57 4 0 12) μ57) fun μ59 =>
          gBp (mX7_set a1 4 (μ59 4 0 5) μ59) fun μ61 =>
          gBp (mX7_tally 6 1 μ61) fun μ63 =>
          j4 μ63) fun j47 =>
      if x42 = 0 then
        gBp (mX7_of a1 12 μ) fun r66 =>
        j47 r66
      else
        gBp (mX7_of a1 7 μ) fun r68 =>
        j47 ((μ 4 0 5) - r68)
set_option maxHeartbeats 4000000 in
set_option maxRecDepth 100000 in
theorem kX7_receiveSnapshot (l : Launch) (D : va_G) (tc : Nat → ClassId) (sa : Nat → Nat) (ad : Nat → Nat → Nat) (hI : gI gE_R ad) (a1 : Int32) (μ : gM) (μ' : gM) (h : mX7_receiveSnapshot a1 μ = some μ') : gMet l yX7_receiveSnapshot cX7_receiveSnapshot 4 (none) ({ frames := 3, cells := 0, slots := 0, locals := 74 } : Room) D gE_R gkd_R tc ad grh_R sa [.ref (ad 0 0), .int a1] μ (none) μ' := by
  refine gMet_of hI ⟨by decide +kernel, Nat.le_of_ble_eq_true rfl⟩ (fun p e s m args below meth c sz hr hlk => ?_)
  unfold mX7_receiveSnapshot at h
  show JR p l e ({ frames := 3, cells := 0, slots := 0, locals := 74 } : Room) s m args below meth c cX7_receiveSnapshot 4 RX7 D tc sa ad sz (none) μ' μ 0 [(0, .ref (ad 0 0)), (1, .int a1)] []
  refine J_aload_n (i := 0) (q := 0) (pc1 := 1) dX7_receiveSnapshot_0 rfl rfl rfl ?_
  refine J_getR (T := TX7) (f' := 4) (i' := 0) (pc1 := 4) eR0 rfl rfl inX7 4 (by decide) rfl rfl flX7_16 rfl dX7_receiveSnapshot_1 rfl ?_
  refine J_iconst (v := 5) (pc1 := 5) dX7_receiveSnapshot_4 (by decide) rfl ?_
  refine J_iald (ix := 5) (pc1 := 6) (by decide) eR4 rfl (by decide : inb 5 25) dX7_receiveSnapshot_5 rfl ?_
  refine J_aload_n (i := 0) (q := 0) (pc1 := 7) dX7_receiveSnapshot_6 rfl rfl rfl ?_
  refine J_iload_n (i := 1) (q := 1) (pc1 := 8) dX7_receiveSnapshot_7 rfl rfl rfl ?_
  refine J_iconst (v := 4) (pc1 := 9) dX7_receiveSnapshot_8 (by decide) rfl ?_
  obtain ⟨r2, hc1, h⟩ := gBp_s h
  refine J_callV (As := [.int a1, .int 4]) (ad := ad) (f := 0) (i := 0) (st := [.int (μ 4 0 5)]) (st1 := [.int r2, .int (μ 4 0 5)]) (pc1 := 12) (kX7_of l D tc sa ad hI a1 4 μ r2 hc1) wcX7_of wlX7_38 eR0 rfl rfl rfl ⟨rfl, rfl, Nat.le_of_ble_eq_true rfl, Nat.le_of_ble_eq_true rfl⟩ ⟨Nat.zero_le _, Nat.zero_le _⟩ (Nat.le_of_ble_eq_true rfl) dX7_receiveSnapshot_9 rfl rfl ?_
  obtain ⟨j4, ej4, h⟩ := gJon_s h
  have kj4 : ∀ (μ3 : gM), j4 μ3 = some μ' → JR p l e ({ frames := 3, cells := 0, slots := 0, locals := 74 } : Room) s m args below meth c cX7_receiveSnapshot 4 RX7 D tc sa ad sz (none) μ' μ3 179 [(0, .ref (ad 0 0)), (1, .int a1)] [] := by
    intro μ3 h
    rw [ej4] at h
    try dsimp only at h
    refine J_aload_n (i := 0) (q := 0) (pc1 := 180) dX7_receiveSnapshot_179 rfl rfl rfl ?_
    refine J_iload_n (i := 1) (q := 1) (pc1 := 181) dX7_receiveSnapshot_180 rfl rfl rfl ?_
    refine J_aload_n (i := 0) (q := 0) (pc1 := 182) dX7_receiveSnapshot_181 rfl rfl rfl ?_
    refine J_iload_n (i := 1) (q := 1) (pc1 := 183) dX7_receiveSnapshot_182 rfl rfl rfl ?_
    refine J_iconst (v := 4) (pc1 := 184) dX7_receiveSnapshot_183 (by decide) rfl ?_
    obtain ⟨r6, hc5, h⟩ := gBp_s h
    refine J_callV (As := [.int a1, .int 4]) (ad := ad) (f := 0) (i := 0) (st := [.int a1, .ref (ad 0 0)]) (st1 := [.int r6, .int a1, .ref (ad 0 0)]) (pc1 := 187) (kX7_of l D tc sa ad hI a1 4 μ3 r6 hc5) wcX7_of wlX7_38 eR0 rfl rfl rfl ⟨rfl, rfl, Nat.le_of_ble_eq_true rfl, Nat.le_of_ble_eq_true rfl⟩ ⟨Nat.zero_le _, Nat.zero_le _⟩ (Nat.le_of_ble_eq_true rfl) dX7_receiveSnapshot_184 rfl rfl ?_
    refine J_iconst (v := 1) (pc1 := 188) dX7_receiveSnapshot_187 (by decide) rfl ?_
    obtain ⟨μ8, hc7, h⟩ := gBp_s h
    refine J_callV (As := [.int a1, .int r6, .int 1]) (ad := ad) (f := 0) (i := 0) (st := []) (st1 := []) (pc1 := 191) (kX7_answer l D tc sa ad hI a1 r6 1 μ3 μ8 hc7) wcX7_answer wlX7_136 eR0 rfl rfl rfl ⟨rfl, rfl, Nat.le_of_ble_eq_true rfl, Nat.le_of_ble_eq_true rfl⟩ ⟨Nat.zero_le _, Nat.zero_le _⟩ (Nat.le_of_ble_eq_true rfl) dX7_receiveSnapshot_188 rfl rfl ?_
    cases h
    exact J_vret hr hlk dX7_receiveSnapshot_191
  clear ej4
  refine J_icmp_le (tgt := 179) (pc1 := 15) dX7_receiveSnapshot_12 (by decide) (fun q9 => ?_) rfl (fun q9 => ?_)
  · rw [if_pos q9] at h
    exact kj4 _ h
  · rw [if_neg q9] at h
    refine J_aload_n (i := 0) (q := 0) (pc1 := 16) dX7_receiveSnapshot_15 rfl rfl rfl ?_
    refine J_getR (T := TX7) (f' := 4) (i' := 0) (pc1 := 19) eR0 rfl rfl inX7 4 (by decide) rfl rfl flX7_16 rfl dX7_receiveSnapshot_16 rfl ?_
    refine J_iconst (v := 5) (pc1 := 20) dX7_receiveSnapshot_19 (by decide) rfl ?_
    refine J_iald (ix := 5) (pc1 := 21) (by decide) eR4 rfl (by decide : inb 5 25) dX7_receiveSnapshot_20 rfl ?_
    refine J_aload_n (i := 0) (q := 0) (pc1 := 22) dX7_receiveSnapshot_21 rfl rfl rfl ?_
    refine J_iload_n (i := 1) (q := 1) (pc1 := 23) dX7_receiveSnapshot_22 rfl rfl rfl ?_
    obtain ⟨r11, hc10, h⟩ := gBp_s h
    refine J_callV (As := [.int a1]) (ad := ad) (f := 0) (i := 0) (st := [.int (μ 4 0 5)]) (st1 := [.int r11, .int (μ 4 0 5)]) (pc1 := 26) (kX7_last l D tc sa ad hI a1 μ r11 hc10) wcX7_last wlX7_67 eR0 rfl rfl rfl ⟨rfl, rfl, Nat.le_of_ble_eq_true rfl, Nat.le_of_ble_eq_true rfl⟩ ⟨Nat.zero_le _, Nat.zero_le _⟩ (Nat.le_of_ble_eq_true rfl) dX7_receiveSnapshot_23 rfl rfl ?_
    obtain ⟨j13, ej13, h⟩ := gJon_s h
    have kj13 : ∀ (x12 : Int32), j13 x12 = some μ' → JR p l e ({ frames := 3, cells := 0, slots := 0, locals := 74 } : Room) s m args below meth c cX7_receiveSnapshot 4 RX7 D tc sa ad sz (none) μ' μ 55 [(0, .ref (ad 0 0)), (1, .int a1)] [.int x12] := by
      intro x12 h
      rw [ej13] at h
      try dsimp only at h
      refine J_istore_n (i := 2) (lv1 := [(2, .int x12), (0, .ref (ad 0 0)), (1, .int a1)]) (pc1 := 56) dX7_receiveSnapshot_55 rfl (by decide) rfl rfl ?_
      refine J_iload_n (i := 2) (q := 0) (pc1 := 57) dX7_receiveSnapshot_56 rfl rfl rfl ?_
      obtain ⟨j15, ej15, h⟩ := gJon_s h
      have kj15 : ∀ (x14 : Int32), j15 x14 = some μ' → JR p l e ({ frames := 3, cells := 0, slots := 0, locals := 74 } : Room) s m args below meth c cX7_receiveSnapshot 4 RX7 D tc sa ad sz (none) μ' μ 84 [(0, .ref (ad 0 0)), (1, .int a1)] [.int x14] := by
        intro x14 h
        rw [ej15] at h
        try dsimp only at h
        refine J_istore_n (i := 3) (lv1 := [(3, .int x14), (0, .ref (ad 0 0)), (1, .int a1)]) (pc1 := 85) dX7_receiveSnapshot_84 rfl (by decide) rfl rfl ?_
        refine J_aload_n (i := 0) (q := 1) (pc1 := 86) dX7_receiveSnapshot_85 rfl rfl rfl ?_
        refine J_iload_n (i := 1) (q := 2) (pc1 := 87) dX7_receiveSnapshot_86 rfl rfl rfl ?_
        refine J_iload_n (i := 3) (q := 0) (pc1 := 88) dX7_receiveSnapshot_87 rfl rfl rfl ?_
        obtain ⟨μ17, hc16, h⟩ := gBp_s h
        refine J_callV (As := [.int a1, .int x14]) (ad := ad) (f := 0) (i := 0) (st := []) (st1 := []) (pc1 := 91) (kX7_dropFirst l D tc sa ad hI a1 x14 μ μ17 hc16) wcX7_dropFirst wlX7_142 eR0 rfl rfl rfl ⟨rfl, rfl, Nat.le_of_ble_eq_true rfl, Nat.le_of_ble_eq_true rfl⟩ ⟨Nat.zero_le _, Nat.zero_le _⟩ (Nat.le_of_ble_eq_true rfl) dX7_receiveSnapshot_88 rfl rfl ?_
        refine J_aload_n (i := 0) (q := 1) (pc1 := 92) dX7_receiveSnapshot_91 rfl rfl rfl ?_
        refine J_iload_n (i := 1) (q := 2) (pc1 := 93) dX7_receiveSnapshot_92 rfl rfl rfl ?_
        refine J_bipush (v := 7) (pc1 := 95) dX7_receiveSnapshot_93 (by decide) rfl ?_
        refine J_aload_n (i := 0) (q := 1) (pc1 := 96) dX7_receiveSnapshot_95 rfl rfl rfl ?_
        refine J_getR (T := TX7) (f' := 4) (i' := 0) (pc1 := 99) eR0 rfl rfl inX7 4 (by decide) rfl rfl flX7_16 rfl dX7_receiveSnapshot_96 rfl ?_
        refine J_iconst (v := 5) (pc1 := 100) dX7_receiveSnapshot_99 (by decide) rfl ?_
        refine J_iald (ix := 5) (pc1 := 101) (by decide) eR4 rfl (by decide : inb 5 25) dX7_receiveSnapshot_100 rfl ?_
        obtain ⟨μ19, hc18, h⟩ := gBp_s h
        refine J_callV (As := [.int a1, .int 7, .int (μ17 4 0 5)]) (ad := ad) (f := 0) (i := 0) (st := []) (st1 := []) (pc1 := 104) (kX7_set l D tc sa ad hI a1 7 (μ17 4 0 5) μ17 μ19 hc18) wcX7_set wlX7_43 eR0 rfl rfl rfl ⟨rfl, rfl, Nat.le_of_ble_eq_true rfl, Nat.le_of_ble_eq_true rfl⟩ ⟨Nat.zero_le _, Nat.zero_le _⟩ (Nat.le_of_ble_eq_true rfl) dX7_receiveSnapshot_101 rfl rfl ?_
        refine J_aload_n (i := 0) (q := 1) (pc1 := 105) dX7_receiveSnapshot_104 rfl rfl rfl ?_
        refine J_iload_n (i := 1) (q := 2) (pc1 := 106) dX7_receiveSnapshot_105 rfl rfl rfl ?_
        refine J_bipush (v := 8) (pc1 := 108) dX7_receiveSnapshot_106 (by decide) rfl ?_
        refine J_aload_n (i := 0) (q := 1) (pc1 := 109) dX7_receiveSnapshot_108 rfl rfl rfl ?_
        refine J_getR (T := TX7) (f' := 4) (i' := 0) (pc1 := 112) eR0 rfl rfl inX7 4 (by decide) rfl rfl flX7_16 rfl dX7_receiveSnapshot_109 rfl ?_
        refine J_bipush (v := 6) (pc1 := 114) dX7_receiveSnapshot_112 (by decide) rfl ?_
        refine J_iald (ix := 6) (pc1 := 115) (by decide) eR4 rfl (by decide : inb 6 25) dX7_receiveSnapshot_114 rfl ?_
        obtain ⟨μ21, hc20, h⟩ := gBp_s h
        refine J_callV (As := [.int a1, .int 8, .int (μ19 4 0 6)]) (ad := ad) (f := 0) (i := 0) (st := []) (st1 := []) (pc1 := 118) (kX7_set l D tc sa ad hI a1 8 (μ19 4 0 6) μ19 μ21 hc20) wcX7_set wlX7_43 eR0 rfl rfl rfl ⟨rfl, rfl, Nat.le_of_ble_eq_true rfl, Nat.le_of_ble_eq_true rfl⟩ ⟨Nat.zero_le _, Nat.zero_le _⟩ (Nat.le_of_ble_eq_true rfl) dX7_receiveSnapshot_115 rfl rfl ?_
        refine J_aload_n (i := 0) (q := 1) (pc1 := 119) dX7_receiveSnapshot_118 rfl rfl rfl ?_
        refine J_iload_n (i := 1) (q := 2) (pc1 := 120) dX7_receiveSnapshot_119 rfl rfl rfl ?_
        refine J_bipush (v := 9) (pc1 := 122) dX7_receiveSnapshot_120 (by decide) rfl ?_
        refine J_aload_n (i := 0) (q := 1) (pc1 := 123) dX7_receiveSnapshot_122 rfl rfl rfl ?_
        refine J_getR (T := TX7) (f' := 4) (i' := 0) (pc1 := 126) eR0 rfl rfl inX7 4 (by decide) rfl rfl flX7_16 rfl dX7_receiveSnapshot_123 rfl ?_
        refine J_bipush (v := 10) (pc1 := 128) dX7_receiveSnapshot_126 (by decide) rfl ?_
        refine J_iald (ix := 10) (pc1 := 129) (by decide) eR4 rfl (by decide : inb 10 25) dX7_receiveSnapshot_128 rfl ?_
        obtain ⟨μ23, hc22, h⟩ := gBp_s h
        refine J_callV (As := [.int a1, .int 9, .int (μ21 4 0 10)]) (ad := ad) (f := 0) (i := 0) (st := []) (st1 := []) (pc1 := 132) (kX7_set l D tc sa ad hI a1 9 (μ21 4 0 10) μ21 μ23 hc22) wcX7_set wlX7_43 eR0 rfl rfl rfl ⟨rfl, rfl, Nat.le_of_ble_eq_true rfl, Nat.le_of_ble_eq_true rfl⟩ ⟨Nat.zero_le _, Nat.zero_le _⟩ (Nat.le_of_ble_eq_true rfl) dX7_receiveSnapshot_129 rfl rfl ?_
        refine J_aload_n (i := 0) (q := 1) (pc1 := 133) dX7_receiveSnapshot_132 rfl rfl rfl ?_
        refine J_iload_n (i := 1) (q := 2) (pc1 := 134) dX7_receiveSnapshot_133 rfl rfl rfl ?_
        refine J_bipush (v := 10) (pc1 := 136) dX7_receiveSnapshot_134 (by decide) rfl ?_
        refine J_aload_n (i := 0) (q := 1) (pc1 := 137) dX7_receiveSnapshot_136 rfl rfl rfl ?_
        refine J_getR (T := TX7) (f' := 4) (i' := 0) (pc1 := 140) eR0 rfl rfl inX7 4 (by decide) rfl rfl flX7_16 rfl dX7_receiveSnapshot_137 rfl ?_
        refine J_bipush (v := 11) (pc1 := 142) dX7_receiveSnapshot_140 (by decide) rfl ?_
        refine J_iald (ix := 11) (pc1 := 143) (by decide) eR4 rfl (by decide : inb 11 25) dX7_receiveSnapshot_142 rfl ?_
        obtain ⟨μ25, hc24, h⟩ := gBp_s h
        refine J_callV (As := [.int a1, .int 10, .int (μ23 4 0 11)]) (ad := ad) (f := 0) (i := 0) (st := []) (st1 := []) (pc1 := 146) (kX7_set l D tc sa ad hI a1 10 (μ23 4 0 11) μ23 μ25 hc24) wcX7_set wlX7_43 eR0 rfl rfl rfl ⟨rfl, rfl, Nat.le_of_ble_eq_true rfl, Nat.le_of_ble_eq_true rfl⟩ ⟨Nat.zero_le _, Nat.zero_le _⟩ (Nat.le_of_ble_eq_true rfl) dX7_receiveSnapshot_143 rfl rfl ?_
        refine J_aload_n (i := 0) (q := 1) (pc1 := 147) dX7_receiveSnapshot_146 rfl rfl rfl ?_
        refine J_iload_n (i := 1) (q := 2) (pc1 := 148) dX7_receiveSnapshot_147 rfl rfl rfl ?_
        refine J_bipush (v := 11) (pc1 := 150) dX7_receiveSnapshot_148 (by decide) rfl ?_
        refine J_aload_n (i := 0) (q := 1) (pc1 := 151) dX7_receiveSnapshot_150 rfl rfl rfl ?_
        refine J_getR (T := TX7) (f' := 4) (i' := 0) (pc1 := 154) eR0 rfl rfl inX7 4 (by decide) rfl rfl flX7_16 rfl dX7_receiveSnapshot_151 rfl ?_
        refine J_bipush (v := 12) (pc1 := 156) dX7_receiveSnapshot_154 (by decide) rfl ?_
        refine J_iald (ix := 12) (pc1 := 157) (by decide) eR4 rfl (by decide : inb 12 25) dX7_receiveSnapshot_156 rfl ?_
        obtain ⟨μ27, hc26, h⟩ := gBp_s h
        refine J_callV (As := [.int a1, .int 11, .int (μ25 4 0 12)]) (ad := ad) (f := 0) (i := 0) (st := []) (st1 := []) (pc1 := 160) (kX7_set l D tc sa ad hI a1 11 (μ25 4 0 12) μ25 μ27 hc26) wcX7_set wlX7_43 eR0 rfl rfl rfl ⟨rfl, rfl, Nat.le_of_ble_eq_true rfl, Nat.le_of_ble_eq_true rfl⟩ ⟨Nat.zero_le _, Nat.zero_le _⟩ (Nat.le_of_ble_eq_true rfl) dX7_receiveSnapshot_157 rfl rfl ?_
        refine J_aload_n (i := 0) (q := 1) (pc1 := 161) dX7_receiveSnapshot_160 rfl rfl rfl ?_
        refine J_iload_n (i := 1) (q := 2) (pc1 := 162) dX7_receiveSnapshot_161 rfl rfl rfl ?_
        refine J_iconst (v := 4) (pc1 := 163) dX7_receiveSnapshot_162 (by decide) rfl ?_
        refine J_aload_n (i := 0) (q := 1) (pc1 := 164) dX7_receiveSnapshot_163 rfl rfl rfl ?_
        refine J_getR (T := TX7) (f' := 4) (i' := 0) (pc1 := 167) eR0 rfl rfl inX7 4 (by decide) rfl rfl flX7_16 rfl dX7_receiveSnapshot_164 rfl ?_
        refine J_iconst (v := 5) (pc1 := 168) dX7_receiveSnapshot_167 (by decide) rfl ?_
        refine J_iald (ix := 5) (pc1 := 169) (by decide) eR4 rfl (by decide : inb 5 25) dX7_receiveSnapshot_168 rfl ?_
        obtain ⟨μ29, hc28, h⟩ := gBp_s h
        refine J_callV (As := [.int a1, .int 4, .int (μ27 4 0 5)]) (ad := ad) (f := 0) (i := 0) (st := []) (st1 := []) (pc1 := 172) (kX7_set l D tc sa ad hI a1 4 (μ27 4 0 5) μ27 μ29 hc28) wcX7_set wlX7_43 eR0 rfl rfl rfl ⟨rfl, rfl, Nat.le_of_ble_eq_true rfl, Nat.le_of_ble_eq_true rfl⟩ ⟨Nat.zero_le _, Nat.zero_le _⟩ (Nat.le_of_ble_eq_true rfl) dX7_receiveSnapshot_169 rfl rfl ?_
        refine J_aload_n (i := 0) (q := 1) (pc1 := 173) dX7_receiveSnapshot_172 rfl rfl rfl ?_
        refine J_bipush (v := 6) (pc1 := 175) dX7_receiveSnapshot_173 (by decide) rfl ?_
        refine J_iconst (v := 1) (pc1 := 176) dX7_receiveSnapshot_175 (by decide) rfl ?_
        obtain ⟨μ31, hc30, h⟩ := gBp_s h
        refine J_callV (As := [.int 6, .int 1]) (ad := ad) (f := 0) (i := 0) (st := []) (st1 := []) (pc1 := 179) (kX7_tally l D tc sa ad hI 6 1 μ29 μ31 hc30) wcX7_tally wlX7_86 eR0 rfl rfl rfl ⟨rfl, rfl, Nat.le_of_ble_eq_true rfl, Nat.le_of_ble_eq_true rfl⟩ ⟨Nat.zero_le _, Nat.zero_le _⟩ (Nat.le_of_ble_eq_true rfl) dX7_receiveSnapshot_176 rfl rfl ?_
        refine J_sub [1, 2] (lv1 := [(0, .ref (ad 0 0)), (1, .int a1)]) rfl ?_
        exact kj4 _ h
      clear ej15
      refine J_if_eq (tgt := 77) (pc1 := 60) dX7_receiveSnapshot_57 (by decide) (fun q32 => ?_) rfl (fun q32 => ?_)
      · rw [if_pos q32] at h
        refine J_aload_n (i := 0) (q := 1) (pc1 := 78) dX7_receiveSnapshot_77 rfl rfl rfl ?_
        refine J_iload_n (i := 1) (q := 2) (pc1 := 79) dX7_receiveSnapshot_78 rfl rfl rfl ?_
        refine J_bipush (v := 12) (pc1 := 81) dX7_receiveSnapshot_79 (by decide) rfl ?_
        obtain ⟨r34, hc33, h⟩ := gBp_s h
        refine J_callV (As := [.int a1, .int 12]) (ad := ad) (f := 0) (i := 0) (st := []) (st1 := [.int r34]) (pc1 := 84) (kX7_of l D tc sa ad hI a1 12 μ r34 hc33) wcX7_of wlX7_38 eR0 rfl rfl rfl ⟨rfl, rfl, Nat.le_of_ble_eq_true rfl, Nat.le_of_ble_eq_true rfl⟩ ⟨Nat.zero_le _, Nat.zero_le _⟩ (Nat.le_of_ble_eq_true rfl) dX7_receiveSnapshot_81 rfl rfl ?_
        refine J_sub [1, 2] (lv1 := [(0, .ref (ad 0 0)), (1, .int a1)]) rfl ?_
        exact kj15 _ h
      · rw [if_neg q32] at h
        refine J_aload_n (i := 0) (q := 1) (pc1 := 61) dX7_receiveSnapshot_60 rfl rfl rfl ?_
        refine J_getR (T := TX7) (f' := 4) (i' := 0) (pc1 := 64) eR0 rfl rfl inX7 4 (by decide) rfl rfl flX7_16 rfl dX7_receiveSnapshot_61 rfl ?_
        refine J_iconst (v := 5) (pc1 := 65) dX7_receiveSnapshot_64 (by decide) rfl ?_
        refine J_iald (ix := 5) (pc1 := 66) (by decide) eR4 rfl (by decide : inb 5 25) dX7_receiveSnapshot_65 rfl ?_
        refine J_aload_n (i := 0) (q := 1) (pc1 := 67) dX7_receiveSnapshot_66 rfl rfl rfl ?_
        refine J_iload_n (i := 1) (q := 2) (pc1 := 68) dX7_receiveSnapshot_67 rfl rfl rfl ?_
        refine J_bipush (v := 7) (pc1 := 70) dX7_receiveSnapshot_68 (by decide) rfl ?_
        obtain ⟨r36, hc35, h⟩ := gBp_s h
        refine J_callV (As := [.int a1, .int 7]) (ad := ad) (f := 0) (i := 0) (st := [.int (μ 4 0 5)]) (st1 := [.int r36, .int (μ 4 0 5)]) (pc1 := 73) (kX7_of l D tc sa ad hI a1 7 μ r36 hc35) wcX7_of wlX7_38 eR0 rfl rfl rfl ⟨rfl, rfl, Nat.le_of_ble_eq_true rfl, Nat.le_of_ble_eq_true rfl⟩ ⟨Nat.zero_le _, Nat.zero_le _⟩ (Nat.le_of_ble_eq_true rfl) dX7_receiveSnapshot_70 rfl rfl ?_
        refine J_isub (pc1 := 74) dX7_receiveSnapshot_73 rfl ?_
        refine J_goto (tgt := 84) dX7_receiveSnapshot_74 (by decide) ?_
        refine J_sub [1, 2] (lv1 := [(0, .ref (ad 0 0)), (1, .int a1)]) rfl ?_
        exact kj15 _ h
    clear ej13
    obtain ⟨j37, ej37, h⟩ := gJon_s h
    have kj37 : ∀ (u38 : Unit), j37 u38 = some μ' → JR p l e ({ frames := 3, cells := 0, slots := 0, locals := 74 } : Room) s m args below meth c cX7_receiveSnapshot 4 RX7 D tc sa ad sz (none) μ' μ 54 [(0, .ref (ad 0 0)), (1, .int a1)] [] := by
      intro u38 h
      rw [ej37] at h
      try dsimp only at h
      refine J_iconst (v := 0) (pc1 := 55) dX7_receiveSnapshot_54 (by decide) rfl ?_
      exact kj13 _ h
    clear ej37
    refine J_icmp_gt (tgt := 54) (pc1 := 29) dX7_receiveSnapshot_26 (by decide) (fun q39 => ?_) rfl (fun q39 => ?_)
    · rw [if_pos q39] at h
      exact kj37 ()  h
    · rw [if_neg q39] at h
      refine J_aload_n (i := 0) (q := 0) (pc1 := 30) dX7_receiveSnapshot_29 rfl rfl rfl ?_
      refine J_iload_n (i := 1) (q := 1) (pc1 := 31) dX7_receiveSnapshot_30 rfl rfl rfl ?_
      refine J_aload_n (i := 0) (q := 0) (pc1 := 32) dX7_receiveSnapshot_31 rfl rfl rfl ?_
      refine J_getR (T := TX7) (f' := 4) (i' := 0) (pc1 := 35) eR0 rfl rfl inX7 4 (by decide) rfl rfl flX7_16 rfl dX7_receiveSnapshot_32 rfl ?_
      refine J_iconst (v := 5) (pc1 := 36) dX7_receiveSnapshot_35 (by decide) rfl ?_
      refine J_iald (ix := 5) (pc1 := 37) (by decide) eR4 rfl (by decide : inb 5 25) dX7_receiveSnapshot_36 rfl ?_
      obtain ⟨r41, hc40, h⟩ := gBp_s h
      refine J_callV (As := [.int a1, .int (μ 4 0 5)]) (ad := ad) (f := 0) (i := 0) (st := []) (st1 := [.int r41]) (pc1 := 40) (kX7_termAt l D tc sa ad hI a1 (μ 4 0 5) μ r41 hc40) wcX7_termAt wlX7_99 eR0 rfl rfl rfl ⟨rfl, rfl, Nat.le_of_ble_eq_true rfl, Nat.le_of_ble_eq_true rfl⟩ ⟨Nat.zero_le _, Nat.zero_le _⟩ (Nat.le_of_ble_eq_true rfl) dX7_receiveSnapshot_37 rfl rfl ?_
      refine J_aload_n (i := 0) (q := 0) (pc1 := 41) dX7_receiveSnapshot_40 rfl rfl rfl ?_
      refine J_getR (T := TX7) (f' := 4) (i' := 0) (pc1 := 44) eR0 rfl rfl inX7 4 (by decide) rfl rfl flX7_16 rfl dX7_receiveSnapshot_41 rfl ?_
      refine J_bipush (v := 6) (pc1 := 46) dX7_receiveSnapshot_44 (by decide) rfl ?_
      refine J_iald (ix := 6) (pc1 := 47) (by decide) eR4 rfl (by decide : inb 6 25) dX7_receiveSnapshot_46 rfl ?_
      obtain ⟨x42, e43, h⟩ := gLet_s h
      have k44 : JR p l e ({ frames := 3, cells := 0, slots := 0, locals := 74 } : Room) s m args below meth c cX7_receiveSnapshot 4 RX7 D tc sa ad sz (none) μ' μ 55 [(0, .ref (ad 0 0)), (1, .int a1)] [.int x42] := by
        refine J_istore_n (i := 2) (lv1 := [(2, .int x42), (0, .ref (ad 0 0)), (1, .int a1)]) (pc1 := 56) dX7_receiveSnapshot_55 rfl (by decide) rfl rfl ?_
        refine J_iload_n (i := 2) (q := 0) (pc1 := 57) dX7_receiveSnapshot_56 rfl rfl rfl ?_
        obtain ⟨j47, ej47, h⟩ := gJon_s h
        have kj47 : ∀ (x46 : Int32), j47 x46 = some μ' → JR p l e ({ frames := 3, cells := 0, slots := 0, locals := 74 } : Room) s m args below meth c cX7_receiveSnapshot 4 RX7 D tc sa ad sz (none) μ' μ 84 [(0, .ref (ad 0 0)), (1, .int a1)] [.int x46] := by
          intro x46 h
          rw [ej47] at h
          try dsimp only at h
          refine J_istore_n (i := 3) (lv1 := [(3, .int x46), (0, .ref (ad 0 0)), (1, .int a1)]) (pc1 := 85) dX7_receiveSnapshot_84 rfl (by decide) rfl rfl ?_
          refine J_aload_n (i := 0) (q := 1) (pc1 := 86) dX7_receiveSnapshot_85 rfl rfl rfl ?_
          refine J_iload_n (i := 1) (q := 2) (pc1 := 87) dX7_receiveSnapshot_86 rfl rfl rfl ?_
          refine J_iload_n (i := 3) (q := 0) (pc1 := 88) dX7_receiveSnapshot_87 rfl rfl rfl ?_
          obtain ⟨μ49, hc48, h⟩ := gBp_s h
          refine J_callV (As := [.int a1, .int x46]) (ad := ad) (f := 0) (i := 0) (st := []) (st1 := []) (pc1 := 91) (kX7_dropFirst l D tc sa ad hI a1 x46 μ μ49 hc48) wcX7_dropFirst wlX7_142 eR0 rfl rfl rfl ⟨rfl, rfl, Nat.le_of_ble_eq_true rfl, Nat.le_of_ble_eq_true rfl⟩ ⟨Nat.zero_le _, Nat.zero_le _⟩ (Nat.le_of_ble_eq_true rfl) dX7_receiveSnapshot_88 rfl rfl ?_
          refine J_aload_n (i := 0) (q := 1) (pc1 := 92) dX7_receiveSnapshot_91 rfl rfl rfl ?_
          refine J_iload_n (i := 1) (q := 2) (pc1 := 93) dX7_receiveSnapshot_92 rfl rfl rfl ?_
          refine J_bipush (v := 7) (pc1 := 95) dX7_receiveSnapshot_93 (by decide) rfl ?_
          refine J_aload_n (i := 0) (q := 1) (pc1 := 96) dX7_receiveSnapshot_95 rfl rfl rfl ?_
          refine J_getR (T := TX7) (f' := 4) (i' := 0) (pc1 := 99) eR0 rfl rfl inX7 4 (by decide) rfl rfl flX7_16 rfl dX7_receiveSnapshot_96 rfl ?_
          refine J_iconst (v := 5) (pc1 := 100) dX7_receiveSnapshot_99 (by decide) rfl ?_
          refine J_iald (ix := 5) (pc1 := 101) (by decide) eR4 rfl (by decide : inb 5 25) dX7_receiveSnapshot_100 rfl ?_
          obtain ⟨μ51, hc50, h⟩ := gBp_s h
          refine J_callV (As := [.int a1, .int 7, .int (μ49 4 0 5)]) (ad := ad) (f := 0) (i := 0) (st := []) (st1 := []) (pc1 := 104) (kX7_set l D tc sa ad hI a1 7 (μ49 4 0 5) μ49 μ51 hc50) wcX7_set wlX7_43 eR0 rfl rfl rfl ⟨rfl, rfl, Nat.le_of_ble_eq_true rfl, Nat.le_of_ble_eq_true rfl⟩ ⟨Nat.zero_le _, Nat.zero_le _⟩ (Nat.le_of_ble_eq_true rfl) dX7_receiveSnapshot_101 rfl rfl ?_
          refine J_aload_n (i := 0) (q := 1) (pc1 := 105) dX7_receiveSnapshot_104 rfl rfl rfl ?_
          refine J_iload_n (i := 1) (q := 2) (pc1 := 106) dX7_receiveSnapshot_105 rfl rfl rfl ?_
          refine J_bipush (v := 8) (pc1 := 108) dX7_receiveSnapshot_106 (by decide) rfl ?_
          refine J_aload_n (i := 0) (q := 1) (pc1 := 109) dX7_receiveSnapshot_108 rfl rfl rfl ?_
          refine J_getR (T := TX7) (f' := 4) (i' := 0) (pc1 := 112) eR0 rfl rfl inX7 4 (by decide) rfl rfl flX7_16 rfl dX7_receiveSnapshot_109 rfl ?_
          refine J_bipush (v := 6) (pc1 := 114) dX7_receiveSnapshot_112 (by decide) rfl ?_
          refine J_iald (ix := 6) (pc1 := 115) (by decide) eR4 rfl (by decide : inb 6 25) dX7_receiveSnapshot_114 rfl ?_
          obtain ⟨μ53, hc52, h⟩ := gBp_s h
          refine J_callV (As := [.int a1, .int 8, .int (μ51 4 0 6)]) (ad := ad) (f := 0) (i := 0) (st := []) (st1 := []) (pc1 := 118) (kX7_set l D tc sa ad hI a1 8 (μ51 4 0 6) μ51 μ53 hc52) wcX7_set wlX7_43 eR0 rfl rfl rfl ⟨rfl, rfl, Nat.le_of_ble_eq_true rfl, Nat.le_of_ble_eq_true rfl⟩ ⟨Nat.zero_le _, Nat.zero_le _⟩ (Nat.le_of_ble_eq_true rfl) dX7_receiveSnapshot_115 rfl rfl ?_
          refine J_aload_n (i := 0) (q := 1) (pc1 := 119) dX7_receiveSnapshot_118 rfl rfl rfl ?_
          refine J_iload_n (i := 1) (q := 2) (pc1 := 120) dX7_receiveSnapshot_119 rfl rfl rfl ?_
          refine J_bipush (v := 9) (pc1 := 122) dX7_receiveSnapshot_120 (by decide) rfl ?_
          refine J_aload_n (i := 0) (q := 1) (pc1 := 123) dX7_receiveSnapshot_122 rfl rfl rfl ?_
          refine J_getR (T := TX7) (f' := 4) (i' := 0) (pc1 := 126) eR0 rfl rfl inX7 4 (by decide) rfl rfl flX7_16 rfl dX7_receiveSnapshot_123 rfl ?_
          refine J_bipush (v := 10) (pc1 := 128) dX7_receiveSnapshot_126 (by decide) rfl ?_
          refine J_iald (ix := 10) (pc1 := 129) (by decide) eR4 rfl (by decide : inb 10 25) dX7_receiveSnapshot_128 rfl ?_
          obtain ⟨μ55, hc54, h⟩ := gBp_s h
          refine J_callV (As := [.int a1, .int 9, .int (μ53 4 0 10)]) (ad := ad) (f := 0) (i := 0) (st := []) (st1 := []) (pc1 := 132) (kX7_set l D tc sa ad hI a1 9 (μ53 4 0 10) μ53 μ55 hc54) wcX7_set wlX7_43 eR0 rfl rfl rfl ⟨rfl, rfl, Nat.le_of_ble_eq_true rfl, Nat.le_of_ble_eq_true rfl⟩ ⟨Nat.zero_le _, Nat.zero_le _⟩ (Nat.le_of_ble_eq_true rfl) dX7_receiveSnapshot_129 rfl rfl ?_
          refine J_aload_n (i := 0) (q := 1) (pc1 := 133) dX7_receiveSnapshot_132 rfl rfl rfl ?_
          refine J_iload_n (i := 1) (q := 2) (pc1 := 134) dX7_receiveSnapshot_133 rfl rfl rfl ?_
          refine J_bipush (v := 10) (pc1 := 136) dX7_receiveSnapshot_134 (by decide) rfl ?_
          refine J_aload_n (i := 0) (q := 1) (pc1 := 137) dX7_receiveSnapshot_136 rfl rfl rfl ?_
          refine J_getR (T := TX7) (f' := 4) (i' := 0) (pc1 := 140) eR0 rfl rfl inX7 4 (by decide) rfl rfl flX7_16 rfl dX7_receiveSnapshot_137 rfl ?_
          refine J_bipush (v := 11) (pc1 := 142) dX7_receiveSnapshot_140 (by decide) rfl ?_
          refine J_iald (ix := 11) (pc1 := 143) (by decide) eR4 rfl (by decide : inb 11 25) dX7_receiveSnapshot_142 rfl ?_
          obtain ⟨μ57, hc56, h⟩ := gBp_s h
          refine J_callV (As := [.int a1, .int 10, .int (μ55 4 0 11)]) (ad := ad) (f := 0) (i := 0) (st := []) (st1 := []) (pc1 := 146) (kX7_set l D tc sa ad hI a1 10 (μ55 4 0 11) μ55 μ57 hc56) wcX7_set wlX7_43 eR0 rfl rfl rfl ⟨rfl, rfl, Nat.le_of_ble_eq_true rfl, Nat.le_of_ble_eq_true rfl⟩ ⟨Nat.zero_le _, Nat.zero_le _⟩ (Nat.le_of_ble_eq_true rfl) dX7_receiveSnapshot_143 rfl rfl ?_
          refine J_aload_n (i := 0) (q := 1) (pc1 := 147) dX7_receiveSnapshot_146 rfl rfl rfl ?_
          refine J_iload_n (i := 1) (q := 2) (pc1 := 148) dX7_receiveSnapshot_147 rfl rfl rfl ?_
          refine J_bipush (v := 11) (pc1 := 150) dX7_receiveSnapshot_148 (by decide) rfl ?_
          refine J_aload_n (i := 0) (q := 1) (pc1 := 151) dX7_receiveSnapshot_150 rfl rfl rfl ?_
          refine J_getR (T := TX7) (f' := 4) (i' := 0) (pc1 := 154) eR0 rfl rfl inX7 4 (by decide) rfl rfl flX7_16 rfl dX7_receiveSnapshot_151 rfl ?_
          refine J_bipush (v := 12) (pc1 := 156) dX7_receiveSnapshot_154 (by decide) rfl ?_
          refine J_iald (ix := 12) (pc1 := 157) (by decide) eR4 rfl (by decide : inb 12 25) dX7_receiveSnapshot_156 rfl ?_
          obtain ⟨μ59, hc58, h⟩ := gBp_s h
          refine J_callV (As := [.int a1, .int 11, .int (μ57 4 0 12)]) (ad := ad) (f := 0) (i := 0) (st := []) (st1 := []) (pc1 := 160) (kX7_set l D tc sa ad hI a1 11 (μ57 4 0 12) μ57 μ59 hc58) wcX7_set wlX7_43 eR0 rfl rfl rfl ⟨rfl, rfl, Nat.le_of_ble_eq_true rfl, Nat.le_of_ble_eq_true rfl⟩ ⟨Nat.zero_le _, Nat.zero_le _⟩ (Nat.le_of_ble_eq_true rfl) dX7_receiveSnapshot_157 rfl rfl ?_
          refine J_aload_n (i := 0) (q := 1) (pc1 := 161) dX7_receiveSnapshot_160 rfl rfl rfl ?_
          refine J_iload_n (i := 1) (q := 2) (pc1 := 162) dX7_receiveSnapshot_161 rfl rfl rfl ?_
          refine J_iconst (v := 4) (pc1 := 163) dX7_receiveSnapshot_162 (by decide) rfl ?_
          refine J_aload_n (i := 0) (q := 1) (pc1 := 164) dX7_receiveSnapshot_163 rfl rfl rfl ?_
          refine J_getR (T := TX7) (f' := 4) (i' := 0) (pc1 := 167) eR0 rfl rfl inX7 4 (by decide) rfl rfl flX7_16 rfl dX7_receiveSnapshot_164 rfl ?_
          refine J_iconst (v := 5) (pc1 := 168) dX7_receiveSnapshot_167 (by decide) rfl ?_
          refine J_iald (ix := 5) (pc1 := 169) (by decide) eR4 rfl (by decide : inb 5 25) dX7_receiveSnapshot_168 rfl ?_
          obtain ⟨μ61, hc60, h⟩ := gBp_s h
          refine J_callV (As := [.int a1, .int 4, .int (μ59 4 0 5)]) (ad := ad) (f := 0) (i := 0) (st := []) (st1 := []) (pc1 := 172) (kX7_set l D tc sa ad hI a1 4 (μ59 4 0 5) μ59 μ61 hc60) wcX7_set wlX7_43 eR0 rfl rfl rfl ⟨rfl, rfl, Nat.le_of_ble_eq_true rfl, Nat.le_of_ble_eq_true rfl⟩ ⟨Nat.zero_le _, Nat.zero_le _⟩ (Nat.le_of_ble_eq_true rfl) dX7_receiveSnapshot_169 rfl rfl ?_
          refine J_aload_n (i := 0) (q := 1) (pc1 := 173) dX7_receiveSnapshot_172 rfl rfl rfl ?_
          refine J_bipush (v := 6) (pc1 := 175) dX7_receiveSnapshot_173 (by decide) rfl ?_
          refine J_iconst (v := 1) (pc1 := 176) dX7_receiveSnapshot_175 (by decide) rfl ?_
          obtain ⟨μ63, hc62, h⟩ := gBp_s h
          refine J_callV (As := [.int 6, .int 1]) (ad := ad) (f := 0) (i := 0) (st := []) (st1 := []) (pc1 := 179) (kX7_tally l D tc sa ad hI 6 1 μ61 μ63 hc62) wcX7_tally wlX7_86 eR0 rfl rfl rfl ⟨rfl, rfl, Nat.le_of_ble_eq_true rfl, Nat.le_of_ble_eq_true rfl⟩ ⟨Nat.zero_le _, Nat.zero_le _⟩ (Nat.le_of_ble_eq_true rfl) dX7_receiveSnapshot_176 rfl rfl ?_
          refine J_sub [1, 2] (lv1 := [(0, .ref (ad 0 0)), (1, .int a1)]) rfl ?_
          exact kj4 _ h
        clear ej47
        refine J_if_eq (tgt := 77) (pc1 := 60) dX7_receiveSnapshot_57 (by decide) (fun q64 => ?_) rfl (fun q64 => ?_)
        · rw [if_pos q64] at h
          refine J_aload_n (i := 0) (q := 1) (pc1 := 78) dX7_receiveSnapshot_77 rfl rfl rfl ?_
          refine J_iload_n (i := 1) (q := 2) (pc1 := 79) dX7_receiveSnapshot_78 rfl rfl rfl ?_
          refine J_bipush (v := 12) (pc1 := 81) dX7_receiveSnapshot_79 (by decide) rfl ?_
          obtain ⟨r66, hc65, h⟩ := gBp_s h
          refine J_callV (As := [.int a1, .int 12]) (ad := ad) (f := 0) (i := 0) (st := []) (st1 := [.int r66]) (pc1 := 84) (kX7_of l D tc sa ad hI a1 12 μ r66 hc65) wcX7_of wlX7_38 eR0 rfl rfl rfl ⟨rfl, rfl, Nat.le_of_ble_eq_true rfl, Nat.le_of_ble_eq_true rfl⟩ ⟨Nat.zero_le _, Nat.zero_le _⟩ (Nat.le_of_ble_eq_true rfl) dX7_receiveSnapshot_81 rfl rfl ?_
          refine J_sub [1, 2] (lv1 := [(0, .ref (ad 0 0)), (1, .int a1)]) rfl ?_
          exact kj47 _ h
        · rw [if_neg q64] at h
          refine J_aload_n (i := 0) (q := 1) (pc1 := 61) dX7_receiveSnapshot_60 rfl rfl rfl ?_
          refine J_getR (T := TX7) (f' := 4) (i' := 0) (pc1 := 64) eR0 rfl rfl inX7 4 (by decide) rfl rfl flX7_16 rfl dX7_receiveSnapshot_61 rfl ?_
          refine J_iconst (v := 5) (pc1 := 65) dX7_receiveSnapshot_64 (by decide) rfl ?_
          refine J_iald (ix := 5) (pc1 := 66) (by decide) eR4 rfl (by decide : inb 5 25) dX7_receiveSnapshot_65 rfl ?_
          refine J_aload_n (i := 0) (q := 1) (pc1 := 67) dX7_receiveSnapshot_66 rfl rfl rfl ?_
          refine J_iload_n (i := 1) (q := 2) (pc1 := 68) dX7_receiveSnapshot_67 rfl rfl rfl ?_
          refine J_bipush (v := 7) (pc1 := 70) dX7_receiveSnapshot_68 (by decide) rfl ?_
          obtain ⟨r68, hc67, h⟩ := gBp_s h
          refine J_callV (As := [.int a1, .int 7]) (ad := ad) (f := 0) (i := 0) (st := [.int (μ 4 0 5)]) (st1 := [.int r68, .int (μ 4 0 5)]) (pc1 := 73) (kX7_of l D tc sa ad hI a1 7 μ r68 hc67) wcX7_of wlX7_38 eR0 rfl rfl rfl ⟨rfl, rfl, Nat.le_of_ble_eq_true rfl, Nat.le_of_ble_eq_true rfl⟩ ⟨Nat.zero_le _, Nat.zero_le _⟩ (Nat.le_of_ble_eq_true rfl) dX7_receiveSnapshot_70 rfl rfl ?_
          refine J_isub (pc1 := 74) dX7_receiveSnapshot_73 rfl ?_
          refine J_goto (tgt := 84) dX7_receiveSnapshot_74 (by decide) ?_
          refine J_sub [1, 2] (lv1 := [(0, .ref (ad 0 0)), (1, .int a1)]) rfl ?_
          exact kj47 _ h
      refine J_icmp_ne (tgt := 54) (pc1 := 50) dX7_receiveSnapshot_47 (by decide) (fun q45 => ?_) rfl (fun q45 => ?_)
      · rw [if_neg q45] at e43
        subst e43
        refine J_iconst (v := 0) (pc1 := 55) dX7_receiveSnapshot_54 (by decide) rfl ?_
        exact k44
      · rw [if_pos q45] at e43
        subst e43
        refine J_iconst (v := 1) (pc1 := 51) dX7_receiveSnapshot_50 (by decide) rfl ?_
        refine J_goto (tgt := 55) dX7_receiveSnapshot_51 (by decide) ?_
        exact k44
def mX7_receiveFromLeader (a1 : Int32) (μ : gM) : Option gM :=
  gBp (mX7_of a1 2 μ) fun r2 =>
  if r2 ≤ (μ 4 0 3) then
    gBp (mX7_set a1 1 0 μ) fun μ5 =>
    gBp (mX7_resetTimer a1 μ5) fun μ7 =>
    if (μ7 4 0 0) = 2 then
      gBp (mX7_receiveAppend a1 μ7) fun μ12 =>
      some μ12
    else
      gBp (mX7_receiveSnapshot a1 μ7) fun μ10 =>
      some μ10
  else
    gBp (mX7_answer a1 0 0 μ) fun μ14 =>
    some μ14
set_option maxHeartbeats 4000000 in
set_option maxRecDepth 100000 in
theorem kX7_receiveFromLeader (l : Launch) (D : va_G) (tc : Nat → ClassId) (sa : Nat → Nat) (ad : Nat → Nat → Nat) (hI : gI gE_R ad) (a1 : Int32) (μ : gM) (μ' : gM) (h : mX7_receiveFromLeader a1 μ = some μ') : gMet l yX7_receiveFromLeader cX7_receiveFromLeader 2 (none) ({ frames := 5, cells := 0, slots := 0, locals := 116 } : Room) D gE_R gkd_R tc ad grh_R sa [.ref (ad 0 0), .int a1] μ (none) μ' := by
  refine gMet_of hI ⟨by decide +kernel, Nat.le_of_ble_eq_true rfl⟩ (fun p e s m args below meth c sz hr hlk => ?_)
  unfold mX7_receiveFromLeader at h
  show JR p l e ({ frames := 5, cells := 0, slots := 0, locals := 116 } : Room) s m args below meth c cX7_receiveFromLeader 2 RX7 D tc sa ad sz (none) μ' μ 0 [(0, .ref (ad 0 0)), (1, .int a1)] []
  refine J_aload_n (i := 0) (q := 0) (pc1 := 1) dX7_receiveFromLeader_0 rfl rfl rfl ?_
  refine J_getR (T := TX7) (f' := 4) (i' := 0) (pc1 := 4) eR0 rfl rfl inX7 4 (by decide) rfl rfl flX7_16 rfl dX7_receiveFromLeader_1 rfl ?_
  refine J_iconst (v := 3) (pc1 := 5) dX7_receiveFromLeader_4 (by decide) rfl ?_
  refine J_iald (ix := 3) (pc1 := 6) (by decide) eR4 rfl (by decide : inb 3 25) dX7_receiveFromLeader_5 rfl ?_
  refine J_aload_n (i := 0) (q := 0) (pc1 := 7) dX7_receiveFromLeader_6 rfl rfl rfl ?_
  refine J_iload_n (i := 1) (q := 1) (pc1 := 8) dX7_receiveFromLeader_7 rfl rfl rfl ?_
  refine J_iconst (v := 2) (pc1 := 9) dX7_receiveFromLeader_8 (by decide) rfl ?_
  obtain ⟨r2, hc1, h⟩ := gBp_s h
  refine J_callV (As := [.int a1, .int 2]) (ad := ad) (f := 0) (i := 0) (st := [.int (μ 4 0 3)]) (st1 := [.int r2, .int (μ 4 0 3)]) (pc1 := 12) (kX7_of l D tc sa ad hI a1 2 μ r2 hc1) wcX7_of wlX7_38 eR0 rfl rfl rfl ⟨rfl, rfl, Nat.le_of_ble_eq_true rfl, Nat.le_of_ble_eq_true rfl⟩ ⟨Nat.zero_le _, Nat.zero_le _⟩ (Nat.le_of_ble_eq_true rfl) dX7_receiveFromLeader_9 rfl rfl ?_
  refine J_icmp_ge (tgt := 23) (pc1 := 15) dX7_receiveFromLeader_12 (by decide) (fun q3 => ?_) rfl (fun q3 => ?_)
  · rw [if_pos q3] at h
    refine J_aload_n (i := 0) (q := 0) (pc1 := 24) dX7_receiveFromLeader_23 rfl rfl rfl ?_
    refine J_iload_n (i := 1) (q := 1) (pc1 := 25) dX7_receiveFromLeader_24 rfl rfl rfl ?_
    refine J_iconst (v := 1) (pc1 := 26) dX7_receiveFromLeader_25 (by decide) rfl ?_
    refine J_iconst (v := 0) (pc1 := 27) dX7_receiveFromLeader_26 (by decide) rfl ?_
    obtain ⟨μ5, hc4, h⟩ := gBp_s h
    refine J_callV (As := [.int a1, .int 1, .int 0]) (ad := ad) (f := 0) (i := 0) (st := []) (st1 := []) (pc1 := 30) (kX7_set l D tc sa ad hI a1 1 0 μ μ5 hc4) wcX7_set wlX7_43 eR0 rfl rfl rfl ⟨rfl, rfl, Nat.le_of_ble_eq_true rfl, Nat.le_of_ble_eq_true rfl⟩ ⟨Nat.zero_le _, Nat.zero_le _⟩ (Nat.le_of_ble_eq_true rfl) dX7_receiveFromLeader_27 rfl rfl ?_
    refine J_aload_n (i := 0) (q := 0) (pc1 := 31) dX7_receiveFromLeader_30 rfl rfl rfl ?_
    refine J_iload_n (i := 1) (q := 1) (pc1 := 32) dX7_receiveFromLeader_31 rfl rfl rfl ?_
    obtain ⟨μ7, hc6, h⟩ := gBp_s h
    refine J_callV (As := [.int a1]) (ad := ad) (f := 0) (i := 0) (st := []) (st1 := []) (pc1 := 35) (kX7_resetTimer l D tc sa ad hI a1 μ5 μ7 hc6) wcX7_resetTimer wlX7_47 eR0 rfl rfl rfl ⟨rfl, rfl, Nat.le_of_ble_eq_true rfl, Nat.le_of_ble_eq_true rfl⟩ ⟨Nat.zero_le _, Nat.zero_le _⟩ (Nat.le_of_ble_eq_true rfl) dX7_receiveFromLeader_32 rfl rfl ?_
    refine J_aload_n (i := 0) (q := 0) (pc1 := 36) dX7_receiveFromLeader_35 rfl rfl rfl ?_
    refine J_getR (T := TX7) (f' := 4) (i' := 0) (pc1 := 39) eR0 rfl rfl inX7 4 (by decide) rfl rfl flX7_16 rfl dX7_receiveFromLeader_36 rfl ?_
    refine J_iconst (v := 0) (pc1 := 40) dX7_receiveFromLeader_39 (by decide) rfl ?_
    refine J_iald (ix := 0) (pc1 := 41) (by decide) eR4 rfl (by decide : inb 0 25) dX7_receiveFromLeader_40 rfl ?_
    refine J_iconst (v := 2) (pc1 := 42) dX7_receiveFromLeader_41 (by decide) rfl ?_
    refine J_icmp_ne (tgt := 53) (pc1 := 45) dX7_receiveFromLeader_42 (by decide) (fun q8 => ?_) rfl (fun q8 => ?_)
    · rw [if_neg q8] at h
      refine J_aload_n (i := 0) (q := 0) (pc1 := 54) dX7_receiveFromLeader_53 rfl rfl rfl ?_
      refine J_iload_n (i := 1) (q := 1) (pc1 := 55) dX7_receiveFromLeader_54 rfl rfl rfl ?_
      obtain ⟨μ10, hc9, h⟩ := gBp_s h
      refine J_callV (As := [.int a1]) (ad := ad) (f := 0) (i := 0) (st := []) (st1 := []) (pc1 := 58) (kX7_receiveSnapshot l D tc sa ad hI a1 μ7 μ10 hc9) wcX7_receiveSnapshot wlX7_148 eR0 rfl rfl rfl ⟨rfl, rfl, Nat.le_of_ble_eq_true rfl, Nat.le_of_ble_eq_true rfl⟩ ⟨Nat.zero_le _, Nat.zero_le _⟩ (Nat.le_of_ble_eq_true rfl) dX7_receiveFromLeader_55 rfl rfl ?_
      cases h
      exact J_vret hr hlk dX7_receiveFromLeader_58
    · rw [if_pos q8] at h
      refine J_aload_n (i := 0) (q := 0) (pc1 := 46) dX7_receiveFromLeader_45 rfl rfl rfl ?_
      refine J_iload_n (i := 1) (q := 1) (pc1 := 47) dX7_receiveFromLeader_46 rfl rfl rfl ?_
      obtain ⟨μ12, hc11, h⟩ := gBp_s h
      refine J_callV (As := [.int a1]) (ad := ad) (f := 0) (i := 0) (st := []) (st1 := []) (pc1 := 50) (kX7_receiveAppend l D tc sa ad hI a1 μ7 μ12 hc11) wcX7_receiveAppend wlX7_145 eR0 rfl rfl rfl ⟨rfl, rfl, Nat.le_of_ble_eq_true rfl, Nat.le_of_ble_eq_true rfl⟩ ⟨Nat.zero_le _, Nat.zero_le _⟩ (Nat.le_of_ble_eq_true rfl) dX7_receiveFromLeader_47 rfl rfl ?_
      refine J_goto (tgt := 58) dX7_receiveFromLeader_50 (by decide) ?_
      cases h
      exact J_vret hr hlk dX7_receiveFromLeader_58
  · rw [if_neg q3] at h
    refine J_aload_n (i := 0) (q := 0) (pc1 := 16) dX7_receiveFromLeader_15 rfl rfl rfl ?_
    refine J_iload_n (i := 1) (q := 1) (pc1 := 17) dX7_receiveFromLeader_16 rfl rfl rfl ?_
    refine J_iconst (v := 0) (pc1 := 18) dX7_receiveFromLeader_17 (by decide) rfl ?_
    refine J_iconst (v := 0) (pc1 := 19) dX7_receiveFromLeader_18 (by decide) rfl ?_
    obtain ⟨μ14, hc13, h⟩ := gBp_s h
    refine J_callV (As := [.int a1, .int 0, .int 0]) (ad := ad) (f := 0) (i := 0) (st := []) (st1 := []) (pc1 := 22) (kX7_answer l D tc sa ad hI a1 0 0 μ μ14 hc13) wcX7_answer wlX7_136 eR0 rfl rfl rfl ⟨rfl, rfl, Nat.le_of_ble_eq_true rfl, Nat.le_of_ble_eq_true rfl⟩ ⟨Nat.zero_le _, Nat.zero_le _⟩ (Nat.le_of_ble_eq_true rfl) dX7_receiveFromLeader_19 rfl rfl ?_
    cases h
    exact J_vret hr hlk dX7_receiveFromLeader_22
def mX7_receiveAnswer (a1 : Int32) (μ : gM) : Option gM :=
  gLet (α := Int32) (μ 4 0 1) fun x1 =>
  gBp (mX7_of a1 1 μ) fun r6 =>
  if r6 = 2 then
    gBp (mX7_of a1 2 μ) fun r9 =>
    if (μ 4 0 3) = r9 then
      if (μ 4 0 6) = 1 then
        gBp (mX7_of a1 (18 + x1) μ) fun r31 =>
        gLet (α := Int32) (if (μ 4 0 5) ≤ r31 then r31 else μ 4 0 5) fun x32 =>
        gBp (mX7_set a1 (18 + x1) x32 μ) fun μ37 =>
        gBp (mX7_set a1 (13 + x1) (x32 + 1) μ37) fun μ39 =>
        gBp (mX7_of a1 (23 + x1) μ39) fun r41 =>
        gJon (fun (μ42 : gM) =>
            gBp (mX7_commit a1 μ42) fun μ45 =>
            some μ45) fun j43 =>
        if (μ39 4 0 7) ≤ r41 then
          j43 μ39
        else
          gBp (mX7_set a1 (23 + x1) (μ39 4 0 7) μ39) fun μ48 =>
          j43 μ48
      else
        gBp (mX7_of a1 (13 + x1) μ) fun r13 =>
        gLet (α := Int32) (r13 - 1) fun x14 =>
        gLet (α := Int32) (if x14 ≤ ((μ 4 0 5) + 1) then x14 else (μ 4 0 5) + 1) fun x18 =>
        gLet (α := Int32) (if 1 ≤ x18 then x18 else 1) fun x22 =>
        gBp (mX7_set a1 (13 + x1) x22 μ) fun μ27 =>
        gBp (mX7_sendTo a1 x1 μ27) fun μ29 =>
        some μ29
    else
      some μ
  else
    some μ
set_option maxHeartbeats 4000000 in
set_option maxRecDepth 100000 in
theorem kX7_receiveAnswer (l : Launch) (D : va_G) (tc : Nat → ClassId) (sa : Nat → Nat) (ad : Nat → Nat → Nat) (hI : gI gE_R ad) (a1 : Int32) (μ : gM) (μ' : gM) (h : mX7_receiveAnswer a1 μ = some μ') : gMet l yX7_receiveAnswer cX7_receiveAnswer 4 (none) ({ frames := 6, cells := 0, slots := 0, locals := 137 } : Room) D gE_R gkd_R tc ad grh_R sa [.ref (ad 0 0), .int a1] μ (none) μ' := by
  refine gMet_of hI ⟨by decide +kernel, Nat.le_of_ble_eq_true rfl⟩ (fun p e s m args below meth c sz hr hlk => ?_)
  unfold mX7_receiveAnswer at h
  show JR p l e ({ frames := 6, cells := 0, slots := 0, locals := 137 } : Room) s m args below meth c cX7_receiveAnswer 4 RX7 D tc sa ad sz (none) μ' μ 0 [(0, .ref (ad 0 0)), (1, .int a1)] []
  refine J_aload_n (i := 0) (q := 0) (pc1 := 1) dX7_receiveAnswer_0 rfl rfl rfl ?_
  refine J_getR (T := TX7) (f' := 4) (i' := 0) (pc1 := 4) eR0 rfl rfl inX7 4 (by decide) rfl rfl flX7_16 rfl dX7_receiveAnswer_1 rfl ?_
  refine J_iconst (v := 1) (pc1 := 5) dX7_receiveAnswer_4 (by decide) rfl ?_
  refine J_iald (ix := 1) (pc1 := 6) (by decide) eR4 rfl (by decide : inb 1 25) dX7_receiveAnswer_5 rfl ?_
  obtain ⟨x1, e3, h⟩ := gLet_s h
  refine J_top (fun y2 e4 => ?_)
  have e4x : x1 = y2 := (e4.trans e3.symm).symm
  subst e4x
  refine J_istore_n (i := 2) (lv1 := [(2, .int x1), (0, .ref (ad 0 0)), (1, .int a1)]) (pc1 := 7) dX7_receiveAnswer_6 rfl (by decide) rfl rfl ?_
  refine J_aload_n (i := 0) (q := 1) (pc1 := 8) dX7_receiveAnswer_7 rfl rfl rfl ?_
  refine J_iload_n (i := 1) (q := 2) (pc1 := 9) dX7_receiveAnswer_8 rfl rfl rfl ?_
  refine J_iconst (v := 1) (pc1 := 10) dX7_receiveAnswer_9 (by decide) rfl ?_
  obtain ⟨r6, hc5, h⟩ := gBp_s h
  refine J_callV (As := [.int a1, .int 1]) (ad := ad) (f := 0) (i := 0) (st := []) (st1 := [.int r6]) (pc1 := 13) (kX7_of l D tc sa ad hI a1 1 μ r6 hc5) wcX7_of wlX7_38 eR0 rfl rfl rfl ⟨rfl, rfl, Nat.le_of_ble_eq_true rfl, Nat.le_of_ble_eq_true rfl⟩ ⟨Nat.zero_le _, Nat.zero_le _⟩ (Nat.le_of_ble_eq_true rfl) dX7_receiveAnswer_10 rfl rfl ?_
  refine J_iconst (v := 2) (pc1 := 14) dX7_receiveAnswer_13 (by decide) rfl ?_
  refine J_icmp_ne (tgt := 32) (pc1 := 17) dX7_receiveAnswer_14 (by decide) (fun q7 => ?_) rfl (fun q7 => ?_)
  · rw [if_neg q7] at h
    cases h
    exact J_vret hr hlk dX7_receiveAnswer_32
  · rw [if_pos q7] at h
    refine J_aload_n (i := 0) (q := 1) (pc1 := 18) dX7_receiveAnswer_17 rfl rfl rfl ?_
    refine J_getR (T := TX7) (f' := 4) (i' := 0) (pc1 := 21) eR0 rfl rfl inX7 4 (by decide) rfl rfl flX7_16 rfl dX7_receiveAnswer_18 rfl ?_
    refine J_iconst (v := 3) (pc1 := 22) dX7_receiveAnswer_21 (by decide) rfl ?_
    refine J_iald (ix := 3) (pc1 := 23) (by decide) eR4 rfl (by decide : inb 3 25) dX7_receiveAnswer_22 rfl ?_
    refine J_aload_n (i := 0) (q := 1) (pc1 := 24) dX7_receiveAnswer_23 rfl rfl rfl ?_
    refine J_iload_n (i := 1) (q := 2) (pc1 := 25) dX7_receiveAnswer_24 rfl rfl rfl ?_
    refine J_iconst (v := 2) (pc1 := 26) dX7_receiveAnswer_25 (by decide) rfl ?_
    obtain ⟨r9, hc8, h⟩ := gBp_s h
    refine J_callV (As := [.int a1, .int 2]) (ad := ad) (f := 0) (i := 0) (st := [.int (μ 4 0 3)]) (st1 := [.int r9, .int (μ 4 0 3)]) (pc1 := 29) (kX7_of l D tc sa ad hI a1 2 μ r9 hc8) wcX7_of wlX7_38 eR0 rfl rfl rfl ⟨rfl, rfl, Nat.le_of_ble_eq_true rfl, Nat.le_of_ble_eq_true rfl⟩ ⟨Nat.zero_le _, Nat.zero_le _⟩ (Nat.le_of_ble_eq_true rfl) dX7_receiveAnswer_26 rfl rfl ?_
    refine J_icmp_eq (tgt := 33) (pc1 := 32) dX7_receiveAnswer_29 (by decide) (fun q10 => ?_) rfl (fun q10 => ?_)
    · rw [if_pos q10] at h
      refine J_aload_n (i := 0) (q := 1) (pc1 := 34) dX7_receiveAnswer_33 rfl rfl rfl ?_
      refine J_getR (T := TX7) (f' := 4) (i' := 0) (pc1 := 37) eR0 rfl rfl inX7 4 (by decide) rfl rfl flX7_16 rfl dX7_receiveAnswer_34 rfl ?_
      refine J_bipush (v := 6) (pc1 := 39) dX7_receiveAnswer_37 (by decide) rfl ?_
      refine J_iald (ix := 6) (pc1 := 40) (by decide) eR4 rfl (by decide : inb 6 25) dX7_receiveAnswer_39 rfl ?_
      refine J_iconst (v := 1) (pc1 := 41) dX7_receiveAnswer_40 (by decide) rfl ?_
      refine J_icmp_ne (tgt := 140) (pc1 := 44) dX7_receiveAnswer_41 (by decide) (fun q11 => ?_) rfl (fun q11 => ?_)
      · rw [if_neg q11] at h
        refine J_aload_n (i := 0) (q := 1) (pc1 := 141) dX7_receiveAnswer_140 rfl rfl rfl ?_
        refine J_iload_n (i := 1) (q := 2) (pc1 := 142) dX7_receiveAnswer_141 rfl rfl rfl ?_
        refine J_bipush (v := 13) (pc1 := 144) dX7_receiveAnswer_142 (by decide) rfl ?_
        refine J_iload_n (i := 2) (q := 0) (pc1 := 145) dX7_receiveAnswer_144 rfl rfl rfl ?_
        refine J_iadd (pc1 := 146) dX7_receiveAnswer_145 rfl ?_
        obtain ⟨r13, hc12, h⟩ := gBp_s h
        refine J_callV (As := [.int a1, .int (13 + x1)]) (ad := ad) (f := 0) (i := 0) (st := []) (st1 := [.int r13]) (pc1 := 149) (kX7_of l D tc sa ad hI a1 (13 + x1) μ r13 hc12) wcX7_of wlX7_38 eR0 rfl rfl rfl ⟨rfl, rfl, Nat.le_of_ble_eq_true rfl, Nat.le_of_ble_eq_true rfl⟩ ⟨Nat.zero_le _, Nat.zero_le _⟩ (Nat.le_of_ble_eq_true rfl) dX7_receiveAnswer_146 rfl rfl ?_
        refine J_iconst (v := 1) (pc1 := 150) dX7_receiveAnswer_149 (by decide) rfl ?_
        refine J_isub (pc1 := 151) dX7_receiveAnswer_150 rfl ?_
        obtain ⟨x14, e16, h⟩ := gLet_s h
        refine J_top (fun y15 e17 => ?_)
        have e17x : x14 = y15 := (e17.trans e16.symm).symm
        subst e17x
        refine J_istore_n (i := 3) (lv1 := [(3, .int x14), (2, .int x1), (0, .ref (ad 0 0)), (1, .int a1)]) (pc1 := 152) dX7_receiveAnswer_151 rfl (by decide) rfl rfl ?_
        refine J_aload_n (i := 0) (q := 2) (pc1 := 153) dX7_receiveAnswer_152 rfl rfl rfl ?_
        refine J_getR (T := TX7) (f' := 4) (i' := 0) (pc1 := 156) eR0 rfl rfl inX7 4 (by decide) rfl rfl flX7_16 rfl dX7_receiveAnswer_153 rfl ?_
        refine J_iconst (v := 5) (pc1 := 157) dX7_receiveAnswer_156 (by decide) rfl ?_
        refine J_iald (ix := 5) (pc1 := 158) (by decide) eR4 rfl (by decide : inb 5 25) dX7_receiveAnswer_157 rfl ?_
        refine J_iconst (v := 1) (pc1 := 159) dX7_receiveAnswer_158 (by decide) rfl ?_
        refine J_iadd (pc1 := 160) dX7_receiveAnswer_159 rfl ?_
        refine J_iload_n (i := 3) (q := 0) (pc1 := 161) dX7_receiveAnswer_160 rfl rfl rfl ?_
        obtain ⟨x18, e19, h⟩ := gLet_s h
        have k20 : JR p l e ({ frames := 6, cells := 0, slots := 0, locals := 137 } : Room) s m args below meth c cX7_receiveAnswer 4 RX7 D tc sa ad sz (none) μ' μ 176 [(3, .int x14), (2, .int x1), (0, .ref (ad 0 0)), (1, .int a1)] [.int x18] := by
          refine J_istore_n (i := 3) (lv1 := [(3, .int x18), (2, .int x1), (0, .ref (ad 0 0)), (1, .int a1)]) (pc1 := 177) dX7_receiveAnswer_176 rfl (by decide) rfl rfl ?_
          refine J_aload_n (i := 0) (q := 2) (pc1 := 178) dX7_receiveAnswer_177 rfl rfl rfl ?_
          refine J_iload_n (i := 1) (q := 3) (pc1 := 179) dX7_receiveAnswer_178 rfl rfl rfl ?_
          refine J_bipush (v := 13) (pc1 := 181) dX7_receiveAnswer_179 (by decide) rfl ?_
          refine J_iload_n (i := 2) (q := 1) (pc1 := 182) dX7_receiveAnswer_181 rfl rfl rfl ?_
          refine J_iadd (pc1 := 183) dX7_receiveAnswer_182 rfl ?_
          refine J_iload_n (i := 3) (q := 0) (pc1 := 184) dX7_receiveAnswer_183 rfl rfl rfl ?_
          refine J_iconst (v := 1) (pc1 := 185) dX7_receiveAnswer_184 (by decide) rfl ?_
          obtain ⟨x22, e23, h⟩ := gLet_s h
          have k24 : JR p l e ({ frames := 6, cells := 0, slots := 0, locals := 137 } : Room) s m args below meth c cX7_receiveAnswer 4 RX7 D tc sa ad sz (none) μ' μ 193 [(3, .int x18), (2, .int x1), (0, .ref (ad 0 0)), (1, .int a1)] [.int x22, .int (13 + x1), .int a1, .ref (ad 0 0)] := by
            obtain ⟨μ27, hc26, h⟩ := gBp_s h
            refine J_callV (As := [.int a1, .int (13 + x1), .int x22]) (ad := ad) (f := 0) (i := 0) (st := []) (st1 := []) (pc1 := 196) (kX7_set l D tc sa ad hI a1 (13 + x1) x22 μ μ27 hc26) wcX7_set wlX7_43 eR0 rfl rfl rfl ⟨rfl, rfl, Nat.le_of_ble_eq_true rfl, Nat.le_of_ble_eq_true rfl⟩ ⟨Nat.zero_le _, Nat.zero_le _⟩ (Nat.le_of_ble_eq_true rfl) dX7_receiveAnswer_193 rfl rfl ?_
            refine J_aload_n (i := 0) (q := 2) (pc1 := 197) dX7_receiveAnswer_196 rfl rfl rfl ?_
            refine J_iload_n (i := 1) (q := 3) (pc1 := 198) dX7_receiveAnswer_197 rfl rfl rfl ?_
            refine J_iload_n (i := 2) (q := 1) (pc1 := 199) dX7_receiveAnswer_198 rfl rfl rfl ?_
            obtain ⟨μ29, hc28, h⟩ := gBp_s h
            refine J_callV (As := [.int a1, .int x1]) (ad := ad) (f := 0) (i := 0) (st := []) (st1 := []) (pc1 := 202) (kX7_sendTo l D tc sa ad hI a1 x1 μ27 μ29 hc28) wcX7_sendTo wlX7_111 eR0 rfl rfl rfl ⟨rfl, rfl, Nat.le_of_ble_eq_true rfl, Nat.le_of_ble_eq_true rfl⟩ ⟨Nat.zero_le _, Nat.zero_le _⟩ (Nat.le_of_ble_eq_true rfl) dX7_receiveAnswer_199 rfl rfl ?_
            cases h
            exact J_vret hr hlk dX7_receiveAnswer_202
          refine J_icmp_ge (tgt := 192) (pc1 := 188) dX7_receiveAnswer_185 (by decide) (fun q25 => ?_) rfl (fun q25 => ?_)
          · rw [if_pos q25] at e23
            subst e23
            refine J_iload_n (i := 3) (q := 0) (pc1 := 193) dX7_receiveAnswer_192 rfl rfl rfl ?_
            exact k24
          · rw [if_neg q25] at e23
            subst e23
            refine J_iconst (v := 1) (pc1 := 189) dX7_receiveAnswer_188 (by decide) rfl ?_
            refine J_goto (tgt := 193) dX7_receiveAnswer_189 (by decide) ?_
            exact k24
        refine J_icmp_ge (tgt := 175) (pc1 := 164) dX7_receiveAnswer_161 (by decide) (fun q21 => ?_) rfl (fun q21 => ?_)
        · rw [if_pos q21] at e19
          subst e19
          refine J_iload_n (i := 3) (q := 0) (pc1 := 176) dX7_receiveAnswer_175 rfl rfl rfl ?_
          exact k20
        · rw [if_neg q21] at e19
          subst e19
          refine J_aload_n (i := 0) (q := 2) (pc1 := 165) dX7_receiveAnswer_164 rfl rfl rfl ?_
          refine J_getR (T := TX7) (f' := 4) (i' := 0) (pc1 := 168) eR0 rfl rfl inX7 4 (by decide) rfl rfl flX7_16 rfl dX7_receiveAnswer_165 rfl ?_
          refine J_iconst (v := 5) (pc1 := 169) dX7_receiveAnswer_168 (by decide) rfl ?_
          refine J_iald (ix := 5) (pc1 := 170) (by decide) eR4 rfl (by decide : inb 5 25) dX7_receiveAnswer_169 rfl ?_
          refine J_iconst (v := 1) (pc1 := 171) dX7_receiveAnswer_170 (by decide) rfl ?_
          refine J_iadd (pc1 := 172) dX7_receiveAnswer_171 rfl ?_
          refine J_goto (tgt := 176) dX7_receiveAnswer_172 (by decide) ?_
          exact k20
      · rw [if_pos q11] at h
        refine J_aload_n (i := 0) (q := 1) (pc1 := 45) dX7_receiveAnswer_44 rfl rfl rfl ?_
        refine J_iload_n (i := 1) (q := 2) (pc1 := 46) dX7_receiveAnswer_45 rfl rfl rfl ?_
        refine J_bipush (v := 18) (pc1 := 48) dX7_receiveAnswer_46 (by decide) rfl ?_
        refine J_iload_n (i := 2) (q := 0) (pc1 := 49) dX7_receiveAnswer_48 rfl rfl rfl ?_
        refine J_iadd (pc1 := 50) dX7_receiveAnswer_49 rfl ?_
        obtain ⟨r31, hc30, h⟩ := gBp_s h
        refine J_callV (As := [.int a1, .int (18 + x1)]) (ad := ad) (f := 0) (i := 0) (st := []) (st1 := [.int r31]) (pc1 := 53) (kX7_of l D tc sa ad hI a1 (18 + x1) μ r31 hc30) wcX7_of wlX7_38 eR0 rfl rfl rfl ⟨rfl, rfl, Nat.le_of_ble_eq_true rfl, Nat.le_of_ble_eq_true rfl⟩ ⟨Nat.zero_le _, Nat.zero_le _⟩ (Nat.le_of_ble_eq_true rfl) dX7_receiveAnswer_50 rfl rfl ?_
        refine J_istore_n (i := 3) (lv1 := [(3, .int r31), (2, .int x1), (0, .ref (ad 0 0)), (1, .int a1)]) (pc1 := 54) dX7_receiveAnswer_53 rfl (by decide) rfl rfl ?_
        refine J_aload_n (i := 0) (q := 2) (pc1 := 55) dX7_receiveAnswer_54 rfl rfl rfl ?_
        refine J_getR (T := TX7) (f' := 4) (i' := 0) (pc1 := 58) eR0 rfl rfl inX7 4 (by decide) rfl rfl flX7_16 rfl dX7_receiveAnswer_55 rfl ?_
        refine J_iconst (v := 5) (pc1 := 59) dX7_receiveAnswer_58 (by decide) rfl ?_
        refine J_iald (ix := 5) (pc1 := 60) (by decide) eR4 rfl (by decide : inb 5 25) dX7_receiveAnswer_59 rfl ?_
        refine J_iload_n (i := 3) (q := 0) (pc1 := 61) dX7_receiveAnswer_60 rfl rfl rfl ?_
        obtain ⟨x32, e33, h⟩ := gLet_s h
        have k34 : JR p l e ({ frames := 6, cells := 0, slots := 0, locals := 137 } : Room) s m args below meth c cX7_receiveAnswer 4 RX7 D tc sa ad sz (none) μ' μ 74 [(3, .int r31), (2, .int x1), (0, .ref (ad 0 0)), (1, .int a1)] [.int x32] := by
          refine J_istore_n (i := 3) (lv1 := [(3, .int x32), (2, .int x1), (0, .ref (ad 0 0)), (1, .int a1)]) (pc1 := 75) dX7_receiveAnswer_74 rfl (by decide) rfl rfl ?_
          refine J_aload_n (i := 0) (q := 2) (pc1 := 76) dX7_receiveAnswer_75 rfl rfl rfl ?_
          refine J_iload_n (i := 1) (q := 3) (pc1 := 77) dX7_receiveAnswer_76 rfl rfl rfl ?_
          refine J_bipush (v := 18) (pc1 := 79) dX7_receiveAnswer_77 (by decide) rfl ?_
          refine J_iload_n (i := 2) (q := 1) (pc1 := 80) dX7_receiveAnswer_79 rfl rfl rfl ?_
          refine J_iadd (pc1 := 81) dX7_receiveAnswer_80 rfl ?_
          refine J_iload_n (i := 3) (q := 0) (pc1 := 82) dX7_receiveAnswer_81 rfl rfl rfl ?_
          obtain ⟨μ37, hc36, h⟩ := gBp_s h
          refine J_callV (As := [.int a1, .int (18 + x1), .int x32]) (ad := ad) (f := 0) (i := 0) (st := []) (st1 := []) (pc1 := 85) (kX7_set l D tc sa ad hI a1 (18 + x1) x32 μ μ37 hc36) wcX7_set wlX7_43 eR0 rfl rfl rfl ⟨rfl, rfl, Nat.le_of_ble_eq_true rfl, Nat.le_of_ble_eq_true rfl⟩ ⟨Nat.zero_le _, Nat.zero_le _⟩ (Nat.le_of_ble_eq_true rfl) dX7_receiveAnswer_82 rfl rfl ?_
          refine J_aload_n (i := 0) (q := 2) (pc1 := 86) dX7_receiveAnswer_85 rfl rfl rfl ?_
          refine J_iload_n (i := 1) (q := 3) (pc1 := 87) dX7_receiveAnswer_86 rfl rfl rfl ?_
          refine J_bipush (v := 13) (pc1 := 89) dX7_receiveAnswer_87 (by decide) rfl ?_
          refine J_iload_n (i := 2) (q := 1) (pc1 := 90) dX7_receiveAnswer_89 rfl rfl rfl ?_
          refine J_iadd (pc1 := 91) dX7_receiveAnswer_90 rfl ?_
          refine J_iload_n (i := 3) (q := 0) (pc1 := 92) dX7_receiveAnswer_91 rfl rfl rfl ?_
          refine J_iconst (v := 1) (pc1 := 93) dX7_receiveAnswer_92 (by decide) rfl ?_
          refine J_iadd (pc1 := 94) dX7_receiveAnswer_93 rfl ?_
          obtain ⟨μ39, hc38, h⟩ := gBp_s h
          refine J_callV (As := [.int a1, .int (13 + x1), .int (x32 + 1)]) (ad := ad) (f := 0) (i := 0) (st := []) (st1 := []) (pc1 := 97) (kX7_set l D tc sa ad hI a1 (13 + x1) (x32 + 1) μ37 μ39 hc38) wcX7_set wlX7_43 eR0 rfl rfl rfl ⟨rfl, rfl, Nat.le_of_ble_eq_true rfl, Nat.le_of_ble_eq_true rfl⟩ ⟨Nat.zero_le _, Nat.zero_le _⟩ (Nat.le_of_ble_eq_true rfl) dX7_receiveAnswer_94 rfl rfl ?_
          refine J_aload_n (i := 0) (q := 2) (pc1 := 98) dX7_receiveAnswer_97 rfl rfl rfl ?_
          refine J_getR (T := TX7) (f' := 4) (i' := 0) (pc1 := 101) eR0 rfl rfl inX7 4 (by decide) rfl rfl flX7_16 rfl dX7_receiveAnswer_98 rfl ?_
          refine J_bipush (v := 7) (pc1 := 103) dX7_receiveAnswer_101 (by decide) rfl ?_
          refine J_iald (ix := 7) (pc1 := 104) (by decide) eR4 rfl (by decide : inb 7 25) dX7_receiveAnswer_103 rfl ?_
          refine J_aload_n (i := 0) (q := 2) (pc1 := 105) dX7_receiveAnswer_104 rfl rfl rfl ?_
          refine J_iload_n (i := 1) (q := 3) (pc1 := 106) dX7_receiveAnswer_105 rfl rfl rfl ?_
          refine J_bipush (v := 23) (pc1 := 108) dX7_receiveAnswer_106 (by decide) rfl ?_
          refine J_iload_n (i := 2) (q := 1) (pc1 := 109) dX7_receiveAnswer_108 rfl rfl rfl ?_
          refine J_iadd (pc1 := 110) dX7_receiveAnswer_109 rfl ?_
          obtain ⟨r41, hc40, h⟩ := gBp_s h
          refine J_callV (As := [.int a1, .int (23 + x1)]) (ad := ad) (f := 0) (i := 0) (st := [.int (μ39 4 0 7)]) (st1 := [.int r41, .int (μ39 4 0 7)]) (pc1 := 113) (kX7_of l D tc sa ad hI a1 (23 + x1) μ39 r41 hc40) wcX7_of wlX7_38 eR0 rfl rfl rfl ⟨rfl, rfl, Nat.le_of_ble_eq_true rfl, Nat.le_of_ble_eq_true rfl⟩ ⟨Nat.zero_le _, Nat.zero_le _⟩ (Nat.le_of_ble_eq_true rfl) dX7_receiveAnswer_110 rfl rfl ?_
          obtain ⟨j43, ej43, h⟩ := gJon_s h
          have kj43 : ∀ (μ42 : gM), j43 μ42 = some μ' → JR p l e ({ frames := 6, cells := 0, slots := 0, locals := 137 } : Room) s m args below meth c cX7_receiveAnswer 4 RX7 D tc sa ad sz (none) μ' μ42 132 [(0, .ref (ad 0 0)), (1, .int a1)] [] := by
            intro μ42 h
            rw [ej43] at h
            try dsimp only at h
            refine J_aload_n (i := 0) (q := 0) (pc1 := 133) dX7_receiveAnswer_132 rfl rfl rfl ?_
            refine J_iload_n (i := 1) (q := 1) (pc1 := 134) dX7_receiveAnswer_133 rfl rfl rfl ?_
            obtain ⟨μ45, hc44, h⟩ := gBp_s h
            refine J_callV (As := [.int a1]) (ad := ad) (f := 0) (i := 0) (st := []) (st1 := []) (pc1 := 137) (kX7_commit l D tc sa ad hI a1 μ42 μ45 hc44) wcX7_commit wlX7_124 eR0 rfl rfl rfl ⟨rfl, rfl, Nat.le_of_ble_eq_true rfl, Nat.le_of_ble_eq_true rfl⟩ ⟨Nat.zero_le _, Nat.zero_le _⟩ (Nat.le_of_ble_eq_true rfl) dX7_receiveAnswer_134 rfl rfl ?_
            refine J_goto (tgt := 202) dX7_receiveAnswer_137 (by decide) ?_
            cases h
            exact J_vret hr hlk dX7_receiveAnswer_202
          clear ej43
          refine J_icmp_le (tgt := 132) (pc1 := 116) dX7_receiveAnswer_113 (by decide) (fun q46 => ?_) rfl (fun q46 => ?_)
          · rw [if_pos q46] at h
            refine J_sub [2, 3] (lv1 := [(0, .ref (ad 0 0)), (1, .int a1)]) rfl ?_
            exact kj43 _ h
          · rw [if_neg q46] at h
            refine J_aload_n (i := 0) (q := 2) (pc1 := 117) dX7_receiveAnswer_116 rfl rfl rfl ?_
            refine J_iload_n (i := 1) (q := 3) (pc1 := 118) dX7_receiveAnswer_117 rfl rfl rfl ?_
            refine J_bipush (v := 23) (pc1 := 120) dX7_receiveAnswer_118 (by decide) rfl ?_
            refine J_iload_n (i := 2) (q := 1) (pc1 := 121) dX7_receiveAnswer_120 rfl rfl rfl ?_
            refine J_iadd (pc1 := 122) dX7_receiveAnswer_121 rfl ?_
            refine J_aload_n (i := 0) (q := 2) (pc1 := 123) dX7_receiveAnswer_122 rfl rfl rfl ?_
            refine J_getR (T := TX7) (f' := 4) (i' := 0) (pc1 := 126) eR0 rfl rfl inX7 4 (by decide) rfl rfl flX7_16 rfl dX7_receiveAnswer_123 rfl ?_
            refine J_bipush (v := 7) (pc1 := 128) dX7_receiveAnswer_126 (by decide) rfl ?_
            refine J_iald (ix := 7) (pc1 := 129) (by decide) eR4 rfl (by decide : inb 7 25) dX7_receiveAnswer_128 rfl ?_
            obtain ⟨μ48, hc47, h⟩ := gBp_s h
            refine J_callV (As := [.int a1, .int (23 + x1), .int (μ39 4 0 7)]) (ad := ad) (f := 0) (i := 0) (st := []) (st1 := []) (pc1 := 132) (kX7_set l D tc sa ad hI a1 (23 + x1) (μ39 4 0 7) μ39 μ48 hc47) wcX7_set wlX7_43 eR0 rfl rfl rfl ⟨rfl, rfl, Nat.le_of_ble_eq_true rfl, Nat.le_of_ble_eq_true rfl⟩ ⟨Nat.zero_le _, Nat.zero_le _⟩ (Nat.le_of_ble_eq_true rfl) dX7_receiveAnswer_129 rfl rfl ?_
            refine J_sub [2, 3] (lv1 := [(0, .ref (ad 0 0)), (1, .int a1)]) rfl ?_
            exact kj43 _ h
        refine J_icmp_le (tgt := 73) (pc1 := 64) dX7_receiveAnswer_61 (by decide) (fun q35 => ?_) rfl (fun q35 => ?_)
        · rw [if_pos q35] at e33
          subst e33
          refine J_iload_n (i := 3) (q := 0) (pc1 := 74) dX7_receiveAnswer_73 rfl rfl rfl ?_
          exact k34
        · rw [if_neg q35] at e33
          subst e33
          refine J_aload_n (i := 0) (q := 2) (pc1 := 65) dX7_receiveAnswer_64 rfl rfl rfl ?_
          refine J_getR (T := TX7) (f' := 4) (i' := 0) (pc1 := 68) eR0 rfl rfl inX7 4 (by decide) rfl rfl flX7_16 rfl dX7_receiveAnswer_65 rfl ?_
          refine J_iconst (v := 5) (pc1 := 69) dX7_receiveAnswer_68 (by decide) rfl ?_
          refine J_iald (ix := 5) (pc1 := 70) (by decide) eR4 rfl (by decide : inb 5 25) dX7_receiveAnswer_69 rfl ?_
          refine J_goto (tgt := 74) dX7_receiveAnswer_70 (by decide) ?_
          exact k34
    · rw [if_neg q10] at h
      cases h
      exact J_vret hr hlk dX7_receiveAnswer_32
def mX7_receive  (μ : gM) : Option gM :=
  gLet (α := Int32) (μ 4 0 2) fun x1 =>
  gBp (mX7_of x1 0 μ) fun r6 =>
  if r6 = 0 then
    gBp (mX7_tally 2 1 μ) fun μ34 =>
    some μ34
  else
    gBp (mX7_of x1 2 μ) fun r9 =>
    gJon (fun (μ10 : gM) =>
        if (μ10 4 0 0) = 0 then
          gBp (mX7_receiveRequest x1 μ10) fun μ14 =>
          some μ14
        else if (μ10 4 0 0) = 1 then
          gBp (mX7_receiveReply x1 μ10) fun μ17 =>
          some μ17
        else if (μ10 4 0 0) = 2 then
          gBp (mX7_receiveFromLeader x1 μ10) fun μ20 =>
          some μ20
        else if (μ10 4 0 0) = 3 then
          gBp (mX7_receiveAnswer x1 μ10) fun μ23 =>
          some μ23
        else 
          gBp (mX7_receiveFromLeader x1 μ10) fun μ25 =>
          some μ25) fun j11 =>
    if (μ 4 0 3) ≤ r9 then
      j11 μ
    else
      gBp (mX7_set x1 2 (μ 4 0 3) μ) fun μ28 =>
      gBp (mX7_set x1 3 (-1) μ28) fun μ30 =>
      gBp (mX7_set x1 1 0 μ30) fun μ32 =>
      j11 μ32
set_option maxHeartbeats 4000000 in
set_option maxRecDepth 100000 in
theorem kX7_receive (l : Launch) (D : va_G) (tc : Nat → ClassId) (sa : Nat → Nat) (ad : Nat → Nat → Nat) (hI : gI gE_R ad)  (μ : gM) (μ' : gM) (h : mX7_receive  μ = some μ') : gMet l yX7_receive cX7_receive 2 (none) ({ frames := 9, cells := 0, slots := 0, locals := 203 } : Room) D gE_R gkd_R tc ad grh_R sa [.ref (ad 0 0)] μ (none) μ' := by
  refine gMet_of hI ⟨by decide +kernel, Nat.le_of_ble_eq_true rfl⟩ (fun p e s m args below meth c sz hr hlk => ?_)
  unfold mX7_receive at h
  show JR p l e ({ frames := 9, cells := 0, slots := 0, locals := 203 } : Room) s m args below meth c cX7_receive 2 RX7 D tc sa ad sz (none) μ' μ 0 [(0, .ref (ad 0 0))] []
  refine J_aload_n (i := 0) (q := 0) (pc1 := 1) dX7_receive_0 rfl rfl rfl ?_
  refine J_getR (T := TX7) (f' := 4) (i' := 0) (pc1 := 4) eR0 rfl rfl inX7 4 (by decide) rfl rfl flX7_16 rfl dX7_receive_1 rfl ?_
  refine J_iconst (v := 2) (pc1 := 5) dX7_receive_4 (by decide) rfl ?_
  refine J_iald (ix := 2) (pc1 := 6) (by decide) eR4 rfl (by decide : inb 2 25) dX7_receive_5 rfl ?_
  obtain ⟨x1, e3, h⟩ := gLet_s h
  refine J_top (fun y2 e4 => ?_)
  have e4x : x1 = y2 := (e4.trans e3.symm).symm
  subst e4x
  refine J_istore_n (i := 1) (lv1 := [(1, .int x1), (0, .ref (ad 0 0))]) (pc1 := 7) dX7_receive_6 rfl (by decide) rfl rfl ?_
  refine J_aload_n (i := 0) (q := 1) (pc1 := 8) dX7_receive_7 rfl rfl rfl ?_
  refine J_iload_n (i := 1) (q := 0) (pc1 := 9) dX7_receive_8 rfl rfl rfl ?_
  refine J_iconst (v := 0) (pc1 := 10) dX7_receive_9 (by decide) rfl ?_
  obtain ⟨r6, hc5, h⟩ := gBp_s h
  refine J_callV (As := [.int x1, .int 0]) (ad := ad) (f := 0) (i := 0) (st := []) (st1 := [.int r6]) (pc1 := 13) (kX7_of l D tc sa ad hI x1 0 μ r6 hc5) wcX7_of wlX7_38 eR0 rfl rfl rfl ⟨rfl, rfl, Nat.le_of_ble_eq_true rfl, Nat.le_of_ble_eq_true rfl⟩ ⟨Nat.zero_le _, Nat.zero_le _⟩ (Nat.le_of_ble_eq_true rfl) dX7_receive_10 rfl rfl ?_
  refine J_if_ne (tgt := 23) (pc1 := 16) dX7_receive_13 (by decide) (fun q7 => ?_) rfl (fun q7 => ?_)
  · rw [if_neg q7] at h
    refine J_aload_n (i := 0) (q := 1) (pc1 := 24) dX7_receive_23 rfl rfl rfl ?_
    refine J_getR (T := TX7) (f' := 4) (i' := 0) (pc1 := 27) eR0 rfl rfl inX7 4 (by decide) rfl rfl flX7_16 rfl dX7_receive_24 rfl ?_
    refine J_iconst (v := 3) (pc1 := 28) dX7_receive_27 (by decide) rfl ?_
    refine J_iald (ix := 3) (pc1 := 29) (by decide) eR4 rfl (by decide : inb 3 25) dX7_receive_28 rfl ?_
    refine J_aload_n (i := 0) (q := 1) (pc1 := 30) dX7_receive_29 rfl rfl rfl ?_
    refine J_iload_n (i := 1) (q := 0) (pc1 := 31) dX7_receive_30 rfl rfl rfl ?_
    refine J_iconst (v := 2) (pc1 := 32) dX7_receive_31 (by decide) rfl ?_
    obtain ⟨r9, hc8, h⟩ := gBp_s h
    refine J_callV (As := [.int x1, .int 2]) (ad := ad) (f := 0) (i := 0) (st := [.int (μ 4 0 3)]) (st1 := [.int r9, .int (μ 4 0 3)]) (pc1 := 35) (kX7_of l D tc sa ad hI x1 2 μ r9 hc8) wcX7_of wlX7_38 eR0 rfl rfl rfl ⟨rfl, rfl, Nat.le_of_ble_eq_true rfl, Nat.le_of_ble_eq_true rfl⟩ ⟨Nat.zero_le _, Nat.zero_le _⟩ (Nat.le_of_ble_eq_true rfl) dX7_receive_32 rfl rfl ?_
    obtain ⟨j11, ej11, h⟩ := gJon_s h
    have kj11 : ∀ (μ10 : gM), j11 μ10 = some μ' → JR p l e ({ frames := 9, cells := 0, slots := 0, locals := 203 } : Room) s m args below meth c cX7_receive 2 RX7 D tc sa ad sz (none) μ' μ10 64 [(0, .ref (ad 0 0)), (1, .int x1)] [] := by
      intro μ10 h
      rw [ej11] at h
      try dsimp only at h
      refine J_aload_n (i := 0) (q := 0) (pc1 := 65) dX7_receive_64 rfl rfl rfl ?_
      refine J_getR (T := TX7) (f' := 4) (i' := 0) (pc1 := 68) eR0 rfl rfl inX7 4 (by decide) rfl rfl flX7_16 rfl dX7_receive_65 rfl ?_
      refine J_iconst (v := 0) (pc1 := 69) dX7_receive_68 (by decide) rfl ?_
      refine J_iald (ix := 0) (pc1 := 70) (by decide) eR4 rfl (by decide : inb 0 25) dX7_receive_69 rfl ?_
      by_cases q12 : (μ10 4 0 0) = 0
      · rw [if_pos q12] at h
        refine J_swIn (v := 0) (off := 30) (tgt := 100) dX7_receive_70 q12 (by decide) ?_
        refine J_aload_n (i := 0) (q := 0) (pc1 := 101) dX7_receive_100 rfl rfl rfl ?_
        refine J_iload_n (i := 1) (q := 1) (pc1 := 102) dX7_receive_101 rfl rfl rfl ?_
        obtain ⟨μ14, hc13, h⟩ := gBp_s h
        refine J_callV (As := [.int x1]) (ad := ad) (f := 0) (i := 0) (st := []) (st1 := []) (pc1 := 105) (kX7_receiveRequest l D tc sa ad hI x1 μ10 μ14 hc13) wcX7_receiveRequest wlX7_151 eR0 rfl rfl rfl ⟨rfl, rfl, Nat.le_of_ble_eq_true rfl, Nat.le_of_ble_eq_true rfl⟩ ⟨Nat.zero_le _, Nat.zero_le _⟩ (Nat.le_of_ble_eq_true rfl) dX7_receive_102 rfl rfl ?_
        refine J_goto (tgt := 129) dX7_receive_105 (by decide) ?_
        cases h
        exact J_vret hr hlk dX7_receive_129
      rw [if_neg q12] at h
      by_cases q15 : (μ10 4 0 0) = 1
      · rw [if_pos q15] at h
        refine J_swIn (v := 1) (off := 38) (tgt := 108) dX7_receive_70 q15 (by decide) ?_
        refine J_aload_n (i := 0) (q := 0) (pc1 := 109) dX7_receive_108 rfl rfl rfl ?_
        refine J_iload_n (i := 1) (q := 1) (pc1 := 110) dX7_receive_109 rfl rfl rfl ?_
        obtain ⟨μ17, hc16, h⟩ := gBp_s h
        refine J_callV (As := [.int x1]) (ad := ad) (f := 0) (i := 0) (st := []) (st1 := []) (pc1 := 113) (kX7_receiveReply l D tc sa ad hI x1 μ10 μ17 hc16) wcX7_receiveReply wlX7_154 eR0 rfl rfl rfl ⟨rfl, rfl, Nat.le_of_ble_eq_true rfl, Nat.le_of_ble_eq_true rfl⟩ ⟨Nat.zero_le _, Nat.zero_le _⟩ (Nat.le_of_ble_eq_true rfl) dX7_receive_110 rfl rfl ?_
        refine J_goto (tgt := 129) dX7_receive_113 (by decide) ?_
        cases h
        exact J_vret hr hlk dX7_receive_129
      rw [if_neg q15] at h
      by_cases q18 : (μ10 4 0 0) = 2
      · rw [if_pos q18] at h
        refine J_swIn (v := 2) (off := 54) (tgt := 124) dX7_receive_70 q18 (by decide) ?_
        refine J_aload_n (i := 0) (q := 0) (pc1 := 125) dX7_receive_124 rfl rfl rfl ?_
        refine J_iload_n (i := 1) (q := 1) (pc1 := 126) dX7_receive_125 rfl rfl rfl ?_
        obtain ⟨μ20, hc19, h⟩ := gBp_s h
        refine J_callV (As := [.int x1]) (ad := ad) (f := 0) (i := 0) (st := []) (st1 := []) (pc1 := 129) (kX7_receiveFromLeader l D tc sa ad hI x1 μ10 μ20 hc19) wcX7_receiveFromLeader wlX7_160 eR0 rfl rfl rfl ⟨rfl, rfl, Nat.le_of_ble_eq_true rfl, Nat.le_of_ble_eq_true rfl⟩ ⟨Nat.zero_le _, Nat.zero_le _⟩ (Nat.le_of_ble_eq_true rfl) dX7_receive_126 rfl rfl ?_
        cases h
        exact J_vret hr hlk dX7_receive_129
      rw [if_neg q18] at h
      by_cases q21 : (μ10 4 0 0) = 3
      · rw [if_pos q21] at h
        refine J_swIn (v := 3) (off := 46) (tgt := 116) dX7_receive_70 q21 (by decide) ?_
        refine J_aload_n (i := 0) (q := 0) (pc1 := 117) dX7_receive_116 rfl rfl rfl ?_
        refine J_iload_n (i := 1) (q := 1) (pc1 := 118) dX7_receive_117 rfl rfl rfl ?_
        obtain ⟨μ23, hc22, h⟩ := gBp_s h
        refine J_callV (As := [.int x1]) (ad := ad) (f := 0) (i := 0) (st := []) (st1 := []) (pc1 := 121) (kX7_receiveAnswer l D tc sa ad hI x1 μ10 μ23 hc22) wcX7_receiveAnswer wlX7_157 eR0 rfl rfl rfl ⟨rfl, rfl, Nat.le_of_ble_eq_true rfl, Nat.le_of_ble_eq_true rfl⟩ ⟨Nat.zero_le _, Nat.zero_le _⟩ (Nat.le_of_ble_eq_true rfl) dX7_receive_118 rfl rfl ?_
        refine J_goto (tgt := 129) dX7_receive_121 (by decide) ?_
        cases h
        exact J_vret hr hlk dX7_receive_129
      rw [if_neg q21] at h
      refine J_swOut (tgt := 124) dX7_receive_70 (by have := i32_ne (k := 0) q12 (by decide); have := i32_ne (k := 1) q15 (by decide); have := i32_ne (k := 2) q18 (by decide); have := i32_ne (k := 3) q21 (by decide); omega) (by decide) ?_
      refine J_aload_n (i := 0) (q := 0) (pc1 := 125) dX7_receive_124 rfl rfl rfl ?_
      refine J_iload_n (i := 1) (q := 1) (pc1 := 126) dX7_receive_125 rfl rfl rfl ?_
      obtain ⟨μ25, hc24, h⟩ := gBp_s h
      refine J_callV (As := [.int x1]) (ad := ad) (f := 0) (i := 0) (st := []) (st1 := []) (pc1 := 129) (kX7_receiveFromLeader l D tc sa ad hI x1 μ10 μ25 hc24) wcX7_receiveFromLeader wlX7_160 eR0 rfl rfl rfl ⟨rfl, rfl, Nat.le_of_ble_eq_true rfl, Nat.le_of_ble_eq_true rfl⟩ ⟨Nat.zero_le _, Nat.zero_le _⟩ (Nat.le_of_ble_eq_true rfl) dX7_receive_126 rfl rfl ?_
      cases h
      exact J_vret hr hlk dX7_receive_129
    clear ej11
    refine J_icmp_le (tgt := 64) (pc1 := 38) dX7_receive_35 (by decide) (fun q26 => ?_) rfl (fun q26 => ?_)
    · rw [if_pos q26] at h
      refine J_sub [1, 0] (lv1 := [(0, .ref (ad 0 0)), (1, .int x1)]) rfl ?_
      exact kj11 _ h
    · rw [if_neg q26] at h
      refine J_aload_n (i := 0) (q := 1) (pc1 := 39) dX7_receive_38 rfl rfl rfl ?_
      refine J_iload_n (i := 1) (q := 0) (pc1 := 40) dX7_receive_39 rfl rfl rfl ?_
      refine J_iconst (v := 2) (pc1 := 41) dX7_receive_40 (by decide) rfl ?_
      refine J_aload_n (i := 0) (q := 1) (pc1 := 42) dX7_receive_41 rfl rfl rfl ?_
      refine J_getR (T := TX7) (f' := 4) (i' := 0) (pc1 := 45) eR0 rfl rfl inX7 4 (by decide) rfl rfl flX7_16 rfl dX7_receive_42 rfl ?_
      refine J_iconst (v := 3) (pc1 := 46) dX7_receive_45 (by decide) rfl ?_
      refine J_iald (ix := 3) (pc1 := 47) (by decide) eR4 rfl (by decide : inb 3 25) dX7_receive_46 rfl ?_
      obtain ⟨μ28, hc27, h⟩ := gBp_s h
      refine J_callV (As := [.int x1, .int 2, .int (μ 4 0 3)]) (ad := ad) (f := 0) (i := 0) (st := []) (st1 := []) (pc1 := 50) (kX7_set l D tc sa ad hI x1 2 (μ 4 0 3) μ μ28 hc27) wcX7_set wlX7_43 eR0 rfl rfl rfl ⟨rfl, rfl, Nat.le_of_ble_eq_true rfl, Nat.le_of_ble_eq_true rfl⟩ ⟨Nat.zero_le _, Nat.zero_le _⟩ (Nat.le_of_ble_eq_true rfl) dX7_receive_47 rfl rfl ?_
      refine J_aload_n (i := 0) (q := 1) (pc1 := 51) dX7_receive_50 rfl rfl rfl ?_
      refine J_iload_n (i := 1) (q := 0) (pc1 := 52) dX7_receive_51 rfl rfl rfl ?_
      refine J_iconst (v := 3) (pc1 := 53) dX7_receive_52 (by decide) rfl ?_
      refine J_iconst (v := (-1)) (pc1 := 54) dX7_receive_53 (by decide) rfl ?_
      obtain ⟨μ30, hc29, h⟩ := gBp_s h
      refine J_callV (As := [.int x1, .int 3, .int (-1)]) (ad := ad) (f := 0) (i := 0) (st := []) (st1 := []) (pc1 := 57) (kX7_set l D tc sa ad hI x1 3 (-1) μ28 μ30 hc29) wcX7_set wlX7_43 eR0 rfl rfl rfl ⟨rfl, rfl, Nat.le_of_ble_eq_true rfl, Nat.le_of_ble_eq_true rfl⟩ ⟨Nat.zero_le _, Nat.zero_le _⟩ (Nat.le_of_ble_eq_true rfl) dX7_receive_54 rfl rfl ?_
      refine J_aload_n (i := 0) (q := 1) (pc1 := 58) dX7_receive_57 rfl rfl rfl ?_
      refine J_iload_n (i := 1) (q := 0) (pc1 := 59) dX7_receive_58 rfl rfl rfl ?_
      refine J_iconst (v := 1) (pc1 := 60) dX7_receive_59 (by decide) rfl ?_
      refine J_iconst (v := 0) (pc1 := 61) dX7_receive_60 (by decide) rfl ?_
      obtain ⟨μ32, hc31, h⟩ := gBp_s h
      refine J_callV (As := [.int x1, .int 1, .int 0]) (ad := ad) (f := 0) (i := 0) (st := []) (st1 := []) (pc1 := 64) (kX7_set l D tc sa ad hI x1 1 0 μ30 μ32 hc31) wcX7_set wlX7_43 eR0 rfl rfl rfl ⟨rfl, rfl, Nat.le_of_ble_eq_true rfl, Nat.le_of_ble_eq_true rfl⟩ ⟨Nat.zero_le _, Nat.zero_le _⟩ (Nat.le_of_ble_eq_true rfl) dX7_receive_61 rfl rfl ?_
      refine J_sub [1, 0] (lv1 := [(0, .ref (ad 0 0)), (1, .int x1)]) rfl ?_
      exact kj11 _ h
  · rw [if_pos q7] at h
    refine J_aload_n (i := 0) (q := 1) (pc1 := 17) dX7_receive_16 rfl rfl rfl ?_
    refine J_iconst (v := 2) (pc1 := 18) dX7_receive_17 (by decide) rfl ?_
    refine J_iconst (v := 1) (pc1 := 19) dX7_receive_18 (by decide) rfl ?_
    obtain ⟨μ34, hc33, h⟩ := gBp_s h
    refine J_callV (As := [.int 2, .int 1]) (ad := ad) (f := 0) (i := 0) (st := []) (st1 := []) (pc1 := 22) (kX7_tally l D tc sa ad hI 2 1 μ μ34 hc33) wcX7_tally wlX7_86 eR0 rfl rfl rfl ⟨rfl, rfl, Nat.le_of_ble_eq_true rfl, Nat.le_of_ble_eq_true rfl⟩ ⟨Nat.zero_le _, Nat.zero_le _⟩ (Nat.le_of_ble_eq_true rfl) dX7_receive_19 rfl rfl ?_
    cases h
    exact J_vret hr hlk dX7_receive_22
def mX7_firstDue  (μ : gM) : Option Int32 :=
  gJon (fun (u2 : Unit) =>
      some (-1)) fun j1 =>
  gFx1 (fun rec4 (x3 : Int32) =>
      if (μ 1 0 3) ≤ x3 then
        j1 () 
      else
        gBp (mX7_part x3 4 μ) fun r7 =>
        if (μ 1 0 0) < r7 then
          rec4 (x3 + 1)
        else
          some x3) 1000000 0
set_option maxHeartbeats 4000000 in
set_option maxRecDepth 100000 in
theorem kX7_firstDue (l : Launch) (D : va_G) (tc : Nat → ClassId) (sa : Nat → Nat) (ad : Nat → Nat → Nat) (hI : gI gE_R ad)  (μ : gM) (r : Int32) (h : mX7_firstDue  μ = some r) : gMet l yX7_firstDue cX7_firstDue 2 (some .int) ({ frames := 1, cells := 0, slots := 0, locals := 22 } : Room) D gE_R gkd_R tc ad grh_R sa [.ref (ad 0 0)] μ (some (.int r)) μ := by
  refine gMet_of hI ⟨by decide +kernel, Nat.le_of_ble_eq_true rfl⟩ (fun p e s m args below meth c sz hr hlk => ?_)
  unfold mX7_firstDue at h
  show JR p l e ({ frames := 1, cells := 0, slots := 0, locals := 22 } : Room) s m args below meth c cX7_firstDue 2 RX7 D tc sa ad sz (some (.int r)) μ μ 0 [(0, .ref (ad 0 0))] []
  refine J_iconst (v := 0) (pc1 := 1) dX7_firstDue_0 (by decide) rfl ?_
  refine J_istore_n (i := 1) (lv1 := [(1, .int 0), (0, .ref (ad 0 0))]) (pc1 := 2) dX7_firstDue_1 rfl (by decide) rfl rfl ?_
  obtain ⟨j1, ej1, h⟩ := gJon_s h
  have kj1 : ∀ (u2 : Unit), j1 u2 = some r → JR p l e ({ frames := 1, cells := 0, slots := 0, locals := 22 } : Room) s m args below meth c cX7_firstDue 2 RX7 D tc sa ad sz (some (.int r)) μ μ 35 [] [] := by
    intro u2 h
    rw [ej1] at h
    try dsimp only at h
    refine J_iconst (v := (-1)) (pc1 := 36) dX7_firstDue_35 (by decide) rfl ?_
    cases h
    exact J_iret hr hlk dX7_firstDue_36
  clear ej1
  refine J_sub [1, 0] (lv1 := [(0, .ref (ad 0 0)), (1, .int 0)]) rfl ?_
  refine gFx1_s (P := fun x3 => JR p l e ({ frames := 1, cells := 0, slots := 0, locals := 22 } : Room) s m args below meth c cX7_firstDue 2 RX7 D tc sa ad sz (some (.int r)) μ μ 2 [(0, .ref (ad 0 0)), (1, .int x3)] []) (fun rec4 ihrec4 x3 h => ?_) _ _ h
  try dsimp only at h
  refine J_iload_n (i := 1) (q := 1) (pc1 := 3) dX7_firstDue_2 rfl rfl rfl ?_
  refine J_aload_n (i := 0) (q := 0) (pc1 := 4) dX7_firstDue_3 rfl rfl rfl ?_
  refine J_getR (T := TX7) (f' := 1) (i' := 0) (pc1 := 7) eR0 rfl rfl inX7 1 (by decide) rfl rfl flX7_9 rfl dX7_firstDue_4 rfl ?_
  refine J_iconst (v := 3) (pc1 := 8) dX7_firstDue_7 (by decide) rfl ?_
  refine J_iald (ix := 3) (pc1 := 9) (by decide) eR1 rfl (by decide : inb 3 1616) dX7_firstDue_8 rfl ?_
  refine J_icmp_ge (tgt := 35) (pc1 := 12) dX7_firstDue_9 (by decide) (fun q5 => ?_) rfl (fun q5 => ?_)
  · rw [if_pos q5] at h
    refine J_sub [] (lv1 := []) rfl ?_
    exact kj1 ()  h
  · rw [if_neg q5] at h
    refine J_aload_n (i := 0) (q := 0) (pc1 := 13) dX7_firstDue_12 rfl rfl rfl ?_
    refine J_iload_n (i := 1) (q := 1) (pc1 := 14) dX7_firstDue_13 rfl rfl rfl ?_
    refine J_iconst (v := 4) (pc1 := 15) dX7_firstDue_14 (by decide) rfl ?_
    obtain ⟨r7, hc6, h⟩ := gBp_s h
    refine J_callV (As := [.int x3, .int 4]) (ad := ad) (f := 0) (i := 0) (st := []) (st1 := [.int r7]) (pc1 := 18) (kX7_part l D tc sa ad hI x3 4 μ r7 hc6) wcX7_part wlX7_163 eR0 rfl rfl rfl ⟨rfl, rfl, Nat.le_of_ble_eq_true rfl, Nat.le_of_ble_eq_true rfl⟩ ⟨Nat.zero_le _, Nat.zero_le _⟩ (Nat.le_of_ble_eq_true rfl) dX7_firstDue_15 rfl rfl ?_
    refine J_aload_n (i := 0) (q := 0) (pc1 := 19) dX7_firstDue_18 rfl rfl rfl ?_
    refine J_getR (T := TX7) (f' := 1) (i' := 0) (pc1 := 22) eR0 rfl rfl inX7 1 (by decide) rfl rfl flX7_9 rfl dX7_firstDue_19 rfl ?_
    refine J_iconst (v := 0) (pc1 := 23) dX7_firstDue_22 (by decide) rfl ?_
    refine J_iald (ix := 0) (pc1 := 24) (by decide) eR1 rfl (by decide : inb 0 1616) dX7_firstDue_23 rfl ?_
    refine J_icmp_gt (tgt := 29) (pc1 := 27) dX7_firstDue_24 (by decide) (fun q8 => ?_) rfl (fun q8 => ?_)
    · rw [if_pos q8] at h
      refine J_iinc (i := 1) (q := 1) (v := x3 + 1) (lv1 := [(1, .int (x3 + 1)), (0, .ref (ad 0 0))]) (pc1 := 32) dX7_firstDue_29 rfl rfl (by decide) rfl rfl ?_
      refine J_goto (tgt := 2) dX7_firstDue_32 (by decide) ?_
      refine J_sub [1, 0] (lv1 := [(0, .ref (ad 0 0)), (1, .int (x3 + 1))]) rfl ?_
      exact ihrec4 _ h
    · rw [if_neg q8] at h
      refine J_iload_n (i := 1) (q := 1) (pc1 := 28) dX7_firstDue_27 rfl rfl rfl ?_
      cases h
      exact J_iret hr hlk dX7_firstDue_28
def mX7_goOn (a1 : Int32) (μ : gM) : Option gM :=
  gBp (mX7_of a1 1 μ) fun r2 =>
  gLet (α := Int32) (if r2 = 2 then 1 else 0) fun x3 =>
  gJon (fun (u22 : Unit) =>
      gBp (mX7_of a1 5 μ) fun r9 =>
      gBp (mX7_set a1 5 (r9 - 1) μ) fun μ11 =>
      gBp (mX7_of a1 5 μ11) fun r13 =>
      if r13 = 0 then
        if x3 = 0 then
          gBp (mX7_stand a1 μ11) fun μ17 =>
          some μ17
        else
          gBp (mX7_set a1 5 3 μ11) fun μ19 =>
          gBp (mX7_sendToAll a1 μ19) fun μ21 =>
          some μ21
      else
        some μ11) fun j7 =>
  if x3 = 0 then
    gBp (mX7_members a1 μ) fun r25 =>
    gBp (mX7_has r25 a1 μ) fun r27 =>
    if r27 = 0 then
      some μ
    else
      j7 () 
  else
    j7 () 
set_option maxHeartbeats 4000000 in
set_option maxRecDepth 100000 in
theorem kX7_goOn (l : Launch) (D : va_G) (tc : Nat → ClassId) (sa : Nat → Nat) (ad : Nat → Nat → Nat) (hI : gI gE_R ad) (a1 : Int32) (μ : gM) (μ' : gM) (h : mX7_goOn a1 μ = some μ') : gMet l yX7_goOn cX7_goOn 3 (none) ({ frames := 9, cells := 0, slots := 0, locals := 205 } : Room) D gE_R gkd_R tc ad grh_R sa [.ref (ad 0 0), .int a1] μ (none) μ' := by
  refine gMet_of hI ⟨by decide +kernel, Nat.le_of_ble_eq_true rfl⟩ (fun p e s m args below meth c sz hr hlk => ?_)
  unfold mX7_goOn at h
  show JR p l e ({ frames := 9, cells := 0, slots := 0, locals := 205 } : Room) s m args below meth c cX7_goOn 3 RX7 D tc sa ad sz (none) μ' μ 0 [(0, .ref (ad 0 0)), (1, .int a1)] []
  refine J_aload_n (i := 0) (q := 0) (pc1 := 1) dX7_goOn_0 rfl rfl rfl ?_
  refine J_iload_n (i := 1) (q := 1) (pc1 := 2) dX7_goOn_1 rfl rfl rfl ?_
  refine J_iconst (v := 1) (pc1 := 3) dX7_goOn_2 (by decide) rfl ?_
  obtain ⟨r2, hc1, h⟩ := gBp_s h
  refine J_callV (As := [.int a1, .int 1]) (ad := ad) (f := 0) (i := 0) (st := []) (st1 := [.int r2]) (pc1 := 6) (kX7_of l D tc sa ad hI a1 1 μ r2 hc1) wcX7_of wlX7_38 eR0 rfl rfl rfl ⟨rfl, rfl, Nat.le_of_ble_eq_true rfl, Nat.le_of_ble_eq_true rfl⟩ ⟨Nat.zero_le _, Nat.zero_le _⟩ (Nat.le_of_ble_eq_true rfl) dX7_goOn_3 rfl rfl ?_
  refine J_iconst (v := 2) (pc1 := 7) dX7_goOn_6 (by decide) rfl ?_
  obtain ⟨x3, e4, h⟩ := gLet_s h
  have k5 : JR p l e ({ frames := 9, cells := 0, slots := 0, locals := 205 } : Room) s m args below meth c cX7_goOn 3 RX7 D tc sa ad sz (none) μ' μ 15 [(0, .ref (ad 0 0)), (1, .int a1)] [.int x3] := by
    refine J_istore_n (i := 2) (lv1 := [(2, .int x3), (0, .ref (ad 0 0)), (1, .int a1)]) (pc1 := 16) dX7_goOn_15 rfl (by decide) rfl rfl ?_
    refine J_iload_n (i := 2) (q := 0) (pc1 := 17) dX7_goOn_16 rfl rfl rfl ?_
    obtain ⟨j7, ej7, h⟩ := gJon_s h
    have kj7 : ∀ (u22 : Unit), j7 u22 = some μ' → JR p l e ({ frames := 9, cells := 0, slots := 0, locals := 205 } : Room) s m args below meth c cX7_goOn 3 RX7 D tc sa ad sz (none) μ' μ 33 [(0, .ref (ad 0 0)), (1, .int a1), (2, .int x3)] [] := by
      intro u22 h
      rw [ej7] at h
      try dsimp only at h
      refine J_aload_n (i := 0) (q := 0) (pc1 := 34) dX7_goOn_33 rfl rfl rfl ?_
      refine J_iload_n (i := 1) (q := 1) (pc1 := 35) dX7_goOn_34 rfl rfl rfl ?_
      refine J_iconst (v := 5) (pc1 := 36) dX7_goOn_35 (by decide) rfl ?_
      refine J_aload_n (i := 0) (q := 0) (pc1 := 37) dX7_goOn_36 rfl rfl rfl ?_
      refine J_iload_n (i := 1) (q := 1) (pc1 := 38) dX7_goOn_37 rfl rfl rfl ?_
      refine J_iconst (v := 5) (pc1 := 39) dX7_goOn_38 (by decide) rfl ?_
      obtain ⟨r9, hc8, h⟩ := gBp_s h
      refine J_callV (As := [.int a1, .int 5]) (ad := ad) (f := 0) (i := 0) (st := [.int 5, .int a1, .ref (ad 0 0)]) (st1 := [.int r9, .int 5, .int a1, .ref (ad 0 0)]) (pc1 := 42) (kX7_of l D tc sa ad hI a1 5 μ r9 hc8) wcX7_of wlX7_38 eR0 rfl rfl rfl ⟨rfl, rfl, Nat.le_of_ble_eq_true rfl, Nat.le_of_ble_eq_true rfl⟩ ⟨Nat.zero_le _, Nat.zero_le _⟩ (Nat.le_of_ble_eq_true rfl) dX7_goOn_39 rfl rfl ?_
      refine J_iconst (v := 1) (pc1 := 43) dX7_goOn_42 (by decide) rfl ?_
      refine J_isub (pc1 := 44) dX7_goOn_43 rfl ?_
      obtain ⟨μ11, hc10, h⟩ := gBp_s h
      refine J_callV (As := [.int a1, .int 5, .int (r9 - 1)]) (ad := ad) (f := 0) (i := 0) (st := []) (st1 := []) (pc1 := 47) (kX7_set l D tc sa ad hI a1 5 (r9 - 1) μ μ11 hc10) wcX7_set wlX7_43 eR0 rfl rfl rfl ⟨rfl, rfl, Nat.le_of_ble_eq_true rfl, Nat.le_of_ble_eq_true rfl⟩ ⟨Nat.zero_le _, Nat.zero_le _⟩ (Nat.le_of_ble_eq_true rfl) dX7_goOn_44 rfl rfl ?_
      refine J_aload_n (i := 0) (q := 0) (pc1 := 48) dX7_goOn_47 rfl rfl rfl ?_
      refine J_iload_n (i := 1) (q := 1) (pc1 := 49) dX7_goOn_48 rfl rfl rfl ?_
      refine J_iconst (v := 5) (pc1 := 50) dX7_goOn_49 (by decide) rfl ?_
      obtain ⟨r13, hc12, h⟩ := gBp_s h
      refine J_callV (As := [.int a1, .int 5]) (ad := ad) (f := 0) (i := 0) (st := []) (st1 := [.int r13]) (pc1 := 53) (kX7_of l D tc sa ad hI a1 5 μ11 r13 hc12) wcX7_of wlX7_38 eR0 rfl rfl rfl ⟨rfl, rfl, Nat.le_of_ble_eq_true rfl, Nat.le_of_ble_eq_true rfl⟩ ⟨Nat.zero_le _, Nat.zero_le _⟩ (Nat.le_of_ble_eq_true rfl) dX7_goOn_50 rfl rfl ?_
      refine J_if_ne (tgt := 80) (pc1 := 56) dX7_goOn_53 (by decide) (fun q14 => ?_) rfl (fun q14 => ?_)
      · rw [if_neg q14] at h
        cases h
        exact J_vret hr hlk dX7_goOn_80
      · rw [if_pos q14] at h
        refine J_iload_n (i := 2) (q := 2) (pc1 := 57) dX7_goOn_56 rfl rfl rfl ?_
        refine J_if_eq (tgt := 75) (pc1 := 60) dX7_goOn_57 (by decide) (fun q15 => ?_) rfl (fun q15 => ?_)
        · rw [if_pos q15] at h
          refine J_aload_n (i := 0) (q := 0) (pc1 := 76) dX7_goOn_75 rfl rfl rfl ?_
          refine J_iload_n (i := 1) (q := 1) (pc1 := 77) dX7_goOn_76 rfl rfl rfl ?_
          obtain ⟨μ17, hc16, h⟩ := gBp_s h
          refine J_callV (As := [.int a1]) (ad := ad) (f := 0) (i := 0) (st := []) (st1 := []) (pc1 := 80) (kX7_stand l D tc sa ad hI a1 μ11 μ17 hc16) wcX7_stand wlX7_166 eR0 rfl rfl rfl ⟨rfl, rfl, Nat.le_of_ble_eq_true rfl, Nat.le_of_ble_eq_true rfl⟩ ⟨Nat.zero_le _, Nat.zero_le _⟩ (Nat.le_of_ble_eq_true rfl) dX7_goOn_77 rfl rfl ?_
          cases h
          exact J_vret hr hlk dX7_goOn_80
        · rw [if_neg q15] at h
          refine J_aload_n (i := 0) (q := 0) (pc1 := 61) dX7_goOn_60 rfl rfl rfl ?_
          refine J_iload_n (i := 1) (q := 1) (pc1 := 62) dX7_goOn_61 rfl rfl rfl ?_
          refine J_iconst (v := 5) (pc1 := 63) dX7_goOn_62 (by decide) rfl ?_
          refine J_iconst (v := 3) (pc1 := 64) dX7_goOn_63 (by decide) rfl ?_
          obtain ⟨μ19, hc18, h⟩ := gBp_s h
          refine J_callV (As := [.int a1, .int 5, .int 3]) (ad := ad) (f := 0) (i := 0) (st := []) (st1 := []) (pc1 := 67) (kX7_set l D tc sa ad hI a1 5 3 μ11 μ19 hc18) wcX7_set wlX7_43 eR0 rfl rfl rfl ⟨rfl, rfl, Nat.le_of_ble_eq_true rfl, Nat.le_of_ble_eq_true rfl⟩ ⟨Nat.zero_le _, Nat.zero_le _⟩ (Nat.le_of_ble_eq_true rfl) dX7_goOn_64 rfl rfl ?_
          refine J_aload_n (i := 0) (q := 0) (pc1 := 68) dX7_goOn_67 rfl rfl rfl ?_
          refine J_iload_n (i := 1) (q := 1) (pc1 := 69) dX7_goOn_68 rfl rfl rfl ?_
          obtain ⟨μ21, hc20, h⟩ := gBp_s h
          refine J_callV (As := [.int a1]) (ad := ad) (f := 0) (i := 0) (st := []) (st1 := []) (pc1 := 72) (kX7_sendToAll l D tc sa ad hI a1 μ19 μ21 hc20) wcX7_sendToAll wlX7_130 eR0 rfl rfl rfl ⟨rfl, rfl, Nat.le_of_ble_eq_true rfl, Nat.le_of_ble_eq_true rfl⟩ ⟨Nat.zero_le _, Nat.zero_le _⟩ (Nat.le_of_ble_eq_true rfl) dX7_goOn_69 rfl rfl ?_
          refine J_goto (tgt := 80) dX7_goOn_72 (by decide) ?_
          cases h
          exact J_vret hr hlk dX7_goOn_80
    clear ej7
    refine J_if_ne (tgt := 33) (pc1 := 20) dX7_goOn_17 (by decide) (fun q23 => ?_) rfl (fun q23 => ?_)
    · rw [if_neg q23] at h
      refine J_sub [1, 2, 0] (lv1 := [(0, .ref (ad 0 0)), (1, .int a1), (2, .int x3)]) rfl ?_
      exact kj7 ()  h
    · rw [if_pos q23] at h
      refine J_aload_n (i := 0) (q := 1) (pc1 := 21) dX7_goOn_20 rfl rfl rfl ?_
      refine J_iload_n (i := 1) (q := 2) (pc1 := 22) dX7_goOn_21 rfl rfl rfl ?_
      obtain ⟨r25, hc24, h⟩ := gBp_s h
      refine J_callV (As := [.int a1]) (ad := ad) (f := 0) (i := 0) (st := []) (st1 := [.int r25]) (pc1 := 25) (kX7_members l D tc sa ad hI a1 μ r25 hc24) wcX7_members wlX7_108 eR0 rfl rfl rfl ⟨rfl, rfl, Nat.le_of_ble_eq_true rfl, Nat.le_of_ble_eq_true rfl⟩ ⟨Nat.zero_le _, Nat.zero_le _⟩ (Nat.le_of_ble_eq_true rfl) dX7_goOn_22 rfl rfl ?_
      refine J_iload_n (i := 1) (q := 2) (pc1 := 26) dX7_goOn_25 rfl rfl rfl ?_
      obtain ⟨r27, hc26, h⟩ := gBp_s h
      refine J_callS (As := [.int r25, .int a1]) (st := []) (st1 := [.int r27]) (pc1 := 29) (kX7_has l D tc sa ad hI r25 a1 μ r27 hc26) wcX7_has wlX7_89 rfl ⟨rfl, rfl, Nat.le_of_ble_eq_true rfl, Nat.le_of_ble_eq_true rfl⟩ ⟨Nat.zero_le _, Nat.zero_le _⟩ (Nat.le_of_ble_eq_true rfl) dX7_goOn_26 rfl rfl ?_
      refine J_if_ne (tgt := 33) (pc1 := 32) dX7_goOn_29 (by decide) (fun q28 => ?_) rfl (fun q28 => ?_)
      · rw [if_neg q28] at h
        refine J_sub [1, 2, 0] (lv1 := [(0, .ref (ad 0 0)), (1, .int a1), (2, .int x3)]) rfl ?_
        exact kj7 ()  h
      · rw [if_pos q28] at h
        cases h
        exact J_vret hr hlk dX7_goOn_32
  refine J_icmp_ne (tgt := 14) (pc1 := 10) dX7_goOn_7 (by decide) (fun q6 => ?_) rfl (fun q6 => ?_)
  · rw [if_neg q6] at e4
    subst e4
    refine J_iconst (v := 0) (pc1 := 15) dX7_goOn_14 (by decide) rfl ?_
    exact k5
  · rw [if_pos q6] at e4
    subst e4
    refine J_iconst (v := 1) (pc1 := 11) dX7_goOn_10 (by decide) rfl ?_
    refine J_goto (tgt := 15) dX7_goOn_11 (by decide) ?_
    exact k5
def mX7_tickOnce  (μ : gM) : Option gM :=
  gLet (α := gM) (w3 μ 1 0 0 ((μ 1 0 0) + 1)) fun μ1 =>
  gBp (mX7_firstDue μ1) fun r4 =>
  gJon (fun (μ5 : gM) =>
      gJon (fun (μ7 : gM) =>
          some μ7) fun j8 =>
      gFx2 (fun rec11 (x9 : Int32) (μ10 : gM) =>
          if 5 ≤ x9 then
            j8 μ10
          else
            gBp (mX7_of x9 0 μ10) fun r14 =>
            if r14 = 1 then
              gBp (mX7_goOn x9 μ10) fun μ17 =>
              rec11 (x9 + 1) μ17
            else
              rec11 (x9 + 1) μ10) 1000000 0 μ5) fun j6 =>
  gFx2 (fun rec20 (x18 : Int32) (μ19 : gM) =>
      if x18 < 0 then
        j6 μ19
      else
        gJon (fun (μ22 : gM) =>
            gBp (mX7_remove x18 μ22) fun μ25 =>
            gBp (mX7_receive μ25) fun μ27 =>
            gBp (mX7_firstDue μ27) fun r29 =>
            rec20 r29 μ27) fun j23 =>
        gFx2 (fun rec32 (x30 : Int32) (μ31 : gM) =>
            if 25 ≤ x30 then
              j23 μ31
            else
              gBp (mX7_part x18 x30 μ31) fun r35 =>
              gChk (inb x30 25) <|
              gLet (α := gM) (w3 μ31 4 0 (x30.toNatClampNeg) r35) fun μ37 =>
              rec32 (x30 + 1) μ37) 1000000 0 μ19) 1000000 r4 μ1
set_option maxHeartbeats 4000000 in
set_option maxRecDepth 100000 in
theorem kX7_tickOnce (l : Launch) (D : va_G) (tc : Nat → ClassId) (sa : Nat → Nat) (ad : Nat → Nat → Nat) (hI : gI gE_R ad)  (μ : gM) (μ' : gM) (h : mX7_tickOnce  μ = some μ') : gMet l yX7_tickOnce cX7_tickOnce 3 (none) ({ frames := 10, cells := 0, slots := 0, locals := 227 } : Room) D gE_R gkd_R tc ad grh_R sa [.ref (ad 0 0)] μ (none) μ' := by
  refine gMet_of hI ⟨by decide +kernel, Nat.le_of_ble_eq_true rfl⟩ (fun p e s m args below meth c sz hr hlk => ?_)
  unfold mX7_tickOnce at h
  show JR p l e ({ frames := 10, cells := 0, slots := 0, locals := 227 } : Room) s m args below meth c cX7_tickOnce 3 RX7 D tc sa ad sz (none) μ' μ 0 [(0, .ref (ad 0 0))] []
  refine J_aload_n (i := 0) (q := 0) (pc1 := 1) dX7_tickOnce_0 rfl rfl rfl ?_
  refine J_getR (T := TX7) (f' := 1) (i' := 0) (pc1 := 4) eR0 rfl rfl inX7 1 (by decide) rfl rfl flX7_9 rfl dX7_tickOnce_1 rfl ?_
  refine J_iconst (v := 0) (pc1 := 5) dX7_tickOnce_4 (by decide) rfl ?_
  refine J_dup2 (pc1 := 6) dX7_tickOnce_5 rfl rfl rfl ?_
  refine J_iald (ix := 0) (pc1 := 7) (by decide) eR1 rfl (by decide : inb 0 1616) dX7_tickOnce_6 rfl ?_
  refine J_iconst (v := 1) (pc1 := 8) dX7_tickOnce_7 (by decide) rfl ?_
  refine J_iadd (pc1 := 9) dX7_tickOnce_8 rfl ?_
  refine J_iast (ix := 0) (pc1 := 10) (by decide) eR1 rfl (by decide : inb 0 1616) dX7_tickOnce_9 rfl ?_
  obtain ⟨μ1, e2, h⟩ := gLet_s h
  rw [← e2]
  clear e2
  refine J_aload_n (i := 0) (q := 0) (pc1 := 11) dX7_tickOnce_10 rfl rfl rfl ?_
  obtain ⟨r4, hc3, h⟩ := gBp_s h
  refine J_callV (As := []) (ad := ad) (f := 0) (i := 0) (st := []) (st1 := [.int r4]) (pc1 := 14) (kX7_firstDue l D tc sa ad hI  μ1 r4 hc3) wcX7_firstDue wlX7_169 eR0 rfl rfl rfl ⟨rfl, rfl, Nat.le_of_ble_eq_true rfl, Nat.le_of_ble_eq_true rfl⟩ ⟨Nat.zero_le _, Nat.zero_le _⟩ (Nat.le_of_ble_eq_true rfl) dX7_tickOnce_11 rfl rfl ?_
  refine J_istore_n (i := 1) (lv1 := [(1, .int r4), (0, .ref (ad 0 0))]) (pc1 := 15) dX7_tickOnce_14 rfl (by decide) rfl rfl ?_
  obtain ⟨j6, ej6, h⟩ := gJon_s h
  have kj6 : ∀ (μ5 : gM), j6 μ5 = some μ' → JR p l e ({ frames := 10, cells := 0, slots := 0, locals := 227 } : Room) s m args below meth c cX7_tickOnce 3 RX7 D tc sa ad sz (none) μ' μ5 62 [(0, .ref (ad 0 0))] [] := by
    intro μ5 h
    rw [ej6] at h
    try dsimp only at h
    refine J_iconst (v := 0) (pc1 := 63) dX7_tickOnce_62 (by decide) rfl ?_
    refine J_istore_n (i := 1) (lv1 := [(1, .int 0), (0, .ref (ad 0 0))]) (pc1 := 64) dX7_tickOnce_63 rfl (by decide) rfl rfl ?_
    obtain ⟨j8, ej8, h⟩ := gJon_s h
    have kj8 : ∀ (μ7 : gM), j8 μ7 = some μ' → JR p l e ({ frames := 10, cells := 0, slots := 0, locals := 227 } : Room) s m args below meth c cX7_tickOnce 3 RX7 D tc sa ad sz (none) μ' μ7 90 [] [] := by
      intro μ7 h
      rw [ej8] at h
      try dsimp only at h
      cases h
      exact J_vret hr hlk dX7_tickOnce_90
    clear ej8
    refine J_sub [1, 0] (lv1 := [(0, .ref (ad 0 0)), (1, .int 0)]) rfl ?_
    refine gFx2_s (P := fun x9 μ10 => JR p l e ({ frames := 10, cells := 0, slots := 0, locals := 227 } : Room) s m args below meth c cX7_tickOnce 3 RX7 D tc sa ad sz (none) μ' μ10 64 [(0, .ref (ad 0 0)), (1, .int x9)] []) (fun rec11 ihrec11 x9 μ10 h => ?_) _ _ _ h
    try dsimp only at h
    refine J_iload_n (i := 1) (q := 1) (pc1 := 65) dX7_tickOnce_64 rfl rfl rfl ?_
    refine J_iconst (v := 5) (pc1 := 66) dX7_tickOnce_65 (by decide) rfl ?_
    refine J_icmp_ge (tgt := 90) (pc1 := 69) dX7_tickOnce_66 (by decide) (fun q12 => ?_) rfl (fun q12 => ?_)
    · rw [if_pos q12] at h
      refine J_sub [] (lv1 := []) rfl ?_
      exact kj8 _ h
    · rw [if_neg q12] at h
      refine J_aload_n (i := 0) (q := 0) (pc1 := 70) dX7_tickOnce_69 rfl rfl rfl ?_
      refine J_iload_n (i := 1) (q := 1) (pc1 := 71) dX7_tickOnce_70 rfl rfl rfl ?_
      refine J_iconst (v := 0) (pc1 := 72) dX7_tickOnce_71 (by decide) rfl ?_
      obtain ⟨r14, hc13, h⟩ := gBp_s h
      refine J_callV (As := [.int x9, .int 0]) (ad := ad) (f := 0) (i := 0) (st := []) (st1 := [.int r14]) (pc1 := 75) (kX7_of l D tc sa ad hI x9 0 μ10 r14 hc13) wcX7_of wlX7_38 eR0 rfl rfl rfl ⟨rfl, rfl, Nat.le_of_ble_eq_true rfl, Nat.le_of_ble_eq_true rfl⟩ ⟨Nat.zero_le _, Nat.zero_le _⟩ (Nat.le_of_ble_eq_true rfl) dX7_tickOnce_72 rfl rfl ?_
      refine J_iconst (v := 1) (pc1 := 76) dX7_tickOnce_75 (by decide) rfl ?_
      refine J_icmp_ne (tgt := 84) (pc1 := 79) dX7_tickOnce_76 (by decide) (fun q15 => ?_) rfl (fun q15 => ?_)
      · rw [if_neg q15] at h
        refine J_iinc (i := 1) (q := 1) (v := x9 + 1) (lv1 := [(1, .int (x9 + 1)), (0, .ref (ad 0 0))]) (pc1 := 87) dX7_tickOnce_84 rfl rfl (by decide) rfl rfl ?_
        refine J_goto (tgt := 64) dX7_tickOnce_87 (by decide) ?_
        refine J_sub [1, 0] (lv1 := [(0, .ref (ad 0 0)), (1, .int (x9 + 1))]) rfl ?_
        exact ihrec11 _ _ h
      · rw [if_pos q15] at h
        refine J_aload_n (i := 0) (q := 0) (pc1 := 80) dX7_tickOnce_79 rfl rfl rfl ?_
        refine J_iload_n (i := 1) (q := 1) (pc1 := 81) dX7_tickOnce_80 rfl rfl rfl ?_
        obtain ⟨μ17, hc16, h⟩ := gBp_s h
        refine J_callV (As := [.int x9]) (ad := ad) (f := 0) (i := 0) (st := []) (st1 := []) (pc1 := 84) (kX7_goOn l D tc sa ad hI x9 μ10 μ17 hc16) wcX7_goOn wlX7_179 eR0 rfl rfl rfl ⟨rfl, rfl, Nat.le_of_ble_eq_true rfl, Nat.le_of_ble_eq_true rfl⟩ ⟨Nat.zero_le _, Nat.zero_le _⟩ (Nat.le_of_ble_eq_true rfl) dX7_tickOnce_81 rfl rfl ?_
        refine J_iinc (i := 1) (q := 1) (v := x9 + 1) (lv1 := [(1, .int (x9 + 1)), (0, .ref (ad 0 0))]) (pc1 := 87) dX7_tickOnce_84 rfl rfl (by decide) rfl rfl ?_
        refine J_goto (tgt := 64) dX7_tickOnce_87 (by decide) ?_
        refine J_sub [1, 0] (lv1 := [(0, .ref (ad 0 0)), (1, .int (x9 + 1))]) rfl ?_
        exact ihrec11 _ _ h
  clear ej6
  refine J_sub [1, 0] (lv1 := [(0, .ref (ad 0 0)), (1, .int r4)]) rfl ?_
  refine gFx2_s (P := fun x18 μ19 => JR p l e ({ frames := 10, cells := 0, slots := 0, locals := 227 } : Room) s m args below meth c cX7_tickOnce 3 RX7 D tc sa ad sz (none) μ' μ19 15 [(0, .ref (ad 0 0)), (1, .int x18)] []) (fun rec20 ihrec20 x18 μ19 h => ?_) _ _ _ h
  try dsimp only at h
  refine J_iload_n (i := 1) (q := 1) (pc1 := 16) dX7_tickOnce_15 rfl rfl rfl ?_
  refine J_if_lt (tgt := 62) (pc1 := 19) dX7_tickOnce_16 (by decide) (fun q21 => ?_) rfl (fun q21 => ?_)
  · rw [if_pos q21] at h
    refine J_sub [0] (lv1 := [(0, .ref (ad 0 0))]) rfl ?_
    exact kj6 _ h
  · rw [if_neg q21] at h
    refine J_iconst (v := 0) (pc1 := 20) dX7_tickOnce_19 (by decide) rfl ?_
    refine J_istore_n (i := 2) (lv1 := [(2, .int 0), (0, .ref (ad 0 0)), (1, .int x18)]) (pc1 := 21) dX7_tickOnce_20 rfl (by decide) rfl rfl ?_
    obtain ⟨j23, ej23, h⟩ := gJon_s h
    have kj23 : ∀ (μ22 : gM), j23 μ22 = some μ' → JR p l e ({ frames := 10, cells := 0, slots := 0, locals := 227 } : Room) s m args below meth c cX7_tickOnce 3 RX7 D tc sa ad sz (none) μ' μ22 45 [(0, .ref (ad 0 0)), (1, .int x18)] [] := by
      intro μ22 h
      rw [ej23] at h
      try dsimp only at h
      refine J_aload_n (i := 0) (q := 0) (pc1 := 46) dX7_tickOnce_45 rfl rfl rfl ?_
      refine J_iload_n (i := 1) (q := 1) (pc1 := 47) dX7_tickOnce_46 rfl rfl rfl ?_
      obtain ⟨μ25, hc24, h⟩ := gBp_s h
      refine J_callV (As := [.int x18]) (ad := ad) (f := 0) (i := 0) (st := []) (st1 := []) (pc1 := 50) (kX7_remove l D tc sa ad hI x18 μ22 μ25 hc24) wcX7_remove wlX7_173 eR0 rfl rfl rfl ⟨rfl, rfl, Nat.le_of_ble_eq_true rfl, Nat.le_of_ble_eq_true rfl⟩ ⟨Nat.zero_le _, Nat.zero_le _⟩ (Nat.le_of_ble_eq_true rfl) dX7_tickOnce_47 rfl rfl ?_
      refine J_aload_n (i := 0) (q := 0) (pc1 := 51) dX7_tickOnce_50 rfl rfl rfl ?_
      obtain ⟨μ27, hc26, h⟩ := gBp_s h
      refine J_callV (As := []) (ad := ad) (f := 0) (i := 0) (st := []) (st1 := []) (pc1 := 54) (kX7_receive l D tc sa ad hI  μ25 μ27 hc26) wcX7_receive wlX7_176 eR0 rfl rfl rfl ⟨rfl, rfl, Nat.le_of_ble_eq_true rfl, Nat.le_of_ble_eq_true rfl⟩ ⟨Nat.zero_le _, Nat.zero_le _⟩ (Nat.le_of_ble_eq_true rfl) dX7_tickOnce_51 rfl rfl ?_
      refine J_aload_n (i := 0) (q := 0) (pc1 := 55) dX7_tickOnce_54 rfl rfl rfl ?_
      obtain ⟨r29, hc28, h⟩ := gBp_s h
      refine J_callV (As := []) (ad := ad) (f := 0) (i := 0) (st := []) (st1 := [.int r29]) (pc1 := 58) (kX7_firstDue l D tc sa ad hI  μ27 r29 hc28) wcX7_firstDue wlX7_169 eR0 rfl rfl rfl ⟨rfl, rfl, Nat.le_of_ble_eq_true rfl, Nat.le_of_ble_eq_true rfl⟩ ⟨Nat.zero_le _, Nat.zero_le _⟩ (Nat.le_of_ble_eq_true rfl) dX7_tickOnce_55 rfl rfl ?_
      refine J_istore_n (i := 1) (lv1 := [(1, .int r29), (0, .ref (ad 0 0))]) (pc1 := 59) dX7_tickOnce_58 rfl (by decide) rfl rfl ?_
      refine J_goto (tgt := 15) dX7_tickOnce_59 (by decide) ?_
      refine J_sub [1, 0] (lv1 := [(0, .ref (ad 0 0)), (1, .int r29)]) rfl ?_
      exact ihrec20 _ _ h
    clear ej23
    refine J_sub [1, 2, 0] (lv1 := [(0, .ref (ad 0 0)), (1, .int x18), (2, .int 0)]) rfl ?_
    refine gFx2_s (P := fun x30 μ31 => JR p l e ({ frames := 10, cells := 0, slots := 0, locals := 227 } : Room) s m args below meth c cX7_tickOnce 3 RX7 D tc sa ad sz (none) μ' μ31 21 [(0, .ref (ad 0 0)), (1, .int x18), (2, .int x30)] []) (fun rec32 ihrec32 x30 μ31 h => ?_) _ _ _ h
    try dsimp only at h
    refine J_iload_n (i := 2) (q := 2) (pc1 := 22) dX7_tickOnce_21 rfl rfl rfl ?_
    refine J_bipush (v := 25) (pc1 := 24) dX7_tickOnce_22 (by decide) rfl ?_
    refine J_icmp_ge (tgt := 45) (pc1 := 27) dX7_tickOnce_24 (by decide) (fun q33 => ?_) rfl (fun q33 => ?_)
    · rw [if_pos q33] at h
      refine J_sub [0, 1] (lv1 := [(0, .ref (ad 0 0)), (1, .int x18)]) rfl ?_
      exact kj23 _ h
    · rw [if_neg q33] at h
      refine J_aload_n (i := 0) (q := 0) (pc1 := 28) dX7_tickOnce_27 rfl rfl rfl ?_
      refine J_getR (T := TX7) (f' := 4) (i' := 0) (pc1 := 31) eR0 rfl rfl inX7 4 (by decide) rfl rfl flX7_16 rfl dX7_tickOnce_28 rfl ?_
      refine J_iload_n (i := 2) (q := 2) (pc1 := 32) dX7_tickOnce_31 rfl rfl rfl ?_
      refine J_aload_n (i := 0) (q := 0) (pc1 := 33) dX7_tickOnce_32 rfl rfl rfl ?_
      refine J_iload_n (i := 1) (q := 1) (pc1 := 34) dX7_tickOnce_33 rfl rfl rfl ?_
      refine J_iload_n (i := 2) (q := 2) (pc1 := 35) dX7_tickOnce_34 rfl rfl rfl ?_
      obtain ⟨r35, hc34, h⟩ := gBp_s h
      refine J_callV (As := [.int x18, .int x30]) (ad := ad) (f := 0) (i := 0) (st := [.int x30, .ref (ad 4 0)]) (st1 := [.int r35, .int x30, .ref (ad 4 0)]) (pc1 := 38) (kX7_part l D tc sa ad hI x18 x30 μ31 r35 hc34) wcX7_part wlX7_163 eR0 rfl rfl rfl ⟨rfl, rfl, Nat.le_of_ble_eq_true rfl, Nat.le_of_ble_eq_true rfl⟩ ⟨Nat.zero_le _, Nat.zero_le _⟩ (Nat.le_of_ble_eq_true rfl) dX7_tickOnce_35 rfl rfl ?_
      obtain ⟨h36, h⟩ := gChk_s h
      refine J_iast (ix := (x30.toNatClampNeg)) (pc1 := 39) rfl eR4 rfl h36 dX7_tickOnce_38 rfl ?_
      obtain ⟨μ37, e38, h⟩ := gLet_s h
      rw [← e38]
      clear e38
      refine J_iinc (i := 2) (q := 2) (v := x30 + 1) (lv1 := [(2, .int (x30 + 1)), (0, .ref (ad 0 0)), (1, .int x18)]) (pc1 := 42) dX7_tickOnce_39 rfl rfl (by decide) rfl rfl ?_
      refine J_goto (tgt := 21) dX7_tickOnce_42 (by decide) ?_
      refine J_sub [1, 2, 0] (lv1 := [(0, .ref (ad 0 0)), (1, .int x18), (2, .int (x30 + 1))]) rfl ?_
      exact ihrec32 _ _ h
def mX7_tick (a1 : Int32) (μ : gM) : Option (Int32 × gM) :=
  gBp (mX7_isBetween a1 1 60 μ) fun r2 =>
  gLet (α := Int32) (if r2 = 0 then 1 else 0) fun x3 =>
  gBd (mX7_fails 1 x3 μ) fun r8 μ9 =>
  if r8 = 0 then
    gJon (fun (μ11 : gM) =>
        some (μ11 1 0 0, μ11)) fun j12 =>
    gFx2 (fun rec15 (x13 : Int32) (μ14 : gM) =>
        if a1 ≤ x13 then
          j12 μ14
        else
          gBp (mX7_tickOnce μ14) fun μ18 =>
          rec15 (x13 + 1) μ18) 1000000 0 μ9
  else
    some (0, μ9)
set_option maxHeartbeats 4000000 in
set_option maxRecDepth 100000 in
theorem kX7_tick (l : Launch) (D : va_G) (tc : Nat → ClassId) (sa : Nat → Nat) (ad : Nat → Nat → Nat) (hI : gI gE_R ad) (a1 : Int32) (μ : gM) (r : Int32) (μ' : gM) (h : mX7_tick a1 μ = some (r, μ')) : gMet l yX7_tick cX7_tick 3 (some .int) ({ frames := 11, cells := 0, slots := 0, locals := 249 } : Room) D gE_R gkd_R tc ad grh_R sa [.ref (ad 0 0), .int a1] μ (some (.int r)) μ' := by
  refine gMet_of hI ⟨by decide +kernel, Nat.le_of_ble_eq_true rfl⟩ (fun p e s m args below meth c sz hr hlk => ?_)
  unfold mX7_tick at h
  show JR p l e ({ frames := 11, cells := 0, slots := 0, locals := 249 } : Room) s m args below meth c cX7_tick 3 RX7 D tc sa ad sz (some (.int r)) μ' μ 0 [(0, .ref (ad 0 0)), (1, .int a1)] []
  refine J_aload_n (i := 0) (q := 0) (pc1 := 1) dX7_tick_0 rfl rfl rfl ?_
  refine J_iconst (v := 1) (pc1 := 2) dX7_tick_1 (by decide) rfl ?_
  refine J_iload_n (i := 1) (q := 1) (pc1 := 3) dX7_tick_2 rfl rfl rfl ?_
  refine J_iconst (v := 1) (pc1 := 4) dX7_tick_3 (by decide) rfl ?_
  refine J_bipush (v := 60) (pc1 := 6) dX7_tick_4 (by decide) rfl ?_
  obtain ⟨r2, hc1, h⟩ := gBp_s h
  refine J_callS (As := [.int a1, .int 1, .int 60]) (st := [.int 1, .ref (ad 0 0)]) (st1 := [.int r2, .int 1, .ref (ad 0 0)]) (pc1 := 9) (kX7_isBetween l D tc sa ad hI a1 1 60 μ r2 hc1) wcX7_isBetween wlX7_34 rfl ⟨rfl, rfl, Nat.le_of_ble_eq_true rfl, Nat.le_of_ble_eq_true rfl⟩ ⟨Nat.zero_le _, Nat.zero_le _⟩ (Nat.le_of_ble_eq_true rfl) dX7_tick_6 rfl rfl ?_
  obtain ⟨x3, e4, h⟩ := gLet_s h
  have k5 : JR p l e ({ frames := 11, cells := 0, slots := 0, locals := 249 } : Room) s m args below meth c cX7_tick 3 RX7 D tc sa ad sz (some (.int r)) μ' μ 17 [(0, .ref (ad 0 0)), (1, .int a1)] [.int x3, .int 1, .ref (ad 0 0)] := by
    obtain ⟨r8, μ9, hc7, h⟩ := gBd_s h
    refine J_callV (As := [.int 1, .int x3]) (ad := ad) (f := 0) (i := 0) (st := []) (st1 := [.int r8]) (pc1 := 20) (kX7_fails l D tc sa ad hI 1 x3 μ r8 μ9 hc7) wcX7_fails wlX7_55 eR0 rfl rfl rfl ⟨rfl, rfl, Nat.le_of_ble_eq_true rfl, Nat.le_of_ble_eq_true rfl⟩ ⟨Nat.zero_le _, Nat.zero_le _⟩ (Nat.le_of_ble_eq_true rfl) dX7_tick_17 rfl rfl ?_
    refine J_if_eq (tgt := 25) (pc1 := 23) dX7_tick_20 (by decide) (fun q10 => ?_) rfl (fun q10 => ?_)
    · rw [if_pos q10] at h
      refine J_iconst (v := 0) (pc1 := 26) dX7_tick_25 (by decide) rfl ?_
      refine J_istore_n (i := 2) (lv1 := [(2, .int 0), (0, .ref (ad 0 0)), (1, .int a1)]) (pc1 := 27) dX7_tick_26 rfl (by decide) rfl rfl ?_
      obtain ⟨j12, ej12, h⟩ := gJon_s h
      have kj12 : ∀ (μ11 : gM), j12 μ11 = some (r, μ') → JR p l e ({ frames := 11, cells := 0, slots := 0, locals := 249 } : Room) s m args below meth c cX7_tick 3 RX7 D tc sa ad sz (some (.int r)) μ' μ11 42 [(0, .ref (ad 0 0))] [] := by
        intro μ11 h
        rw [ej12] at h
        try dsimp only at h
        refine J_aload_n (i := 0) (q := 0) (pc1 := 43) dX7_tick_42 rfl rfl rfl ?_
        refine J_getR (T := TX7) (f' := 1) (i' := 0) (pc1 := 46) eR0 rfl rfl inX7 1 (by decide) rfl rfl flX7_9 rfl dX7_tick_43 rfl ?_
        refine J_iconst (v := 0) (pc1 := 47) dX7_tick_46 (by decide) rfl ?_
        refine J_iald (ix := 0) (pc1 := 48) (by decide) eR1 rfl (by decide : inb 0 1616) dX7_tick_47 rfl ?_
        cases h
        exact J_iret hr hlk dX7_tick_48
      clear ej12
      refine J_sub [1, 2, 0] (lv1 := [(0, .ref (ad 0 0)), (1, .int a1), (2, .int 0)]) rfl ?_
      refine gFx2_s (P := fun x13 μ14 => JR p l e ({ frames := 11, cells := 0, slots := 0, locals := 249 } : Room) s m args below meth c cX7_tick 3 RX7 D tc sa ad sz (some (.int r)) μ' μ14 27 [(0, .ref (ad 0 0)), (1, .int a1), (2, .int x13)] []) (fun rec15 ihrec15 x13 μ14 h => ?_) _ _ _ h
      try dsimp only at h
      refine J_iload_n (i := 2) (q := 2) (pc1 := 28) dX7_tick_27 rfl rfl rfl ?_
      refine J_iload_n (i := 1) (q := 1) (pc1 := 29) dX7_tick_28 rfl rfl rfl ?_
      refine J_icmp_ge (tgt := 42) (pc1 := 32) dX7_tick_29 (by decide) (fun q16 => ?_) rfl (fun q16 => ?_)
      · rw [if_pos q16] at h
        refine J_sub [0] (lv1 := [(0, .ref (ad 0 0))]) rfl ?_
        exact kj12 _ h
      · rw [if_neg q16] at h
        refine J_aload_n (i := 0) (q := 0) (pc1 := 33) dX7_tick_32 rfl rfl rfl ?_
        obtain ⟨μ18, hc17, h⟩ := gBp_s h
        refine J_callV (As := []) (ad := ad) (f := 0) (i := 0) (st := []) (st1 := []) (pc1 := 36) (kX7_tickOnce l D tc sa ad hI  μ14 μ18 hc17) wcX7_tickOnce wlX7_182 eR0 rfl rfl rfl ⟨rfl, rfl, Nat.le_of_ble_eq_true rfl, Nat.le_of_ble_eq_true rfl⟩ ⟨Nat.zero_le _, Nat.zero_le _⟩ (Nat.le_of_ble_eq_true rfl) dX7_tick_33 rfl rfl ?_
        refine J_iinc (i := 2) (q := 2) (v := x13 + 1) (lv1 := [(2, .int (x13 + 1)), (0, .ref (ad 0 0)), (1, .int a1)]) (pc1 := 39) dX7_tick_36 rfl rfl (by decide) rfl rfl ?_
        refine J_goto (tgt := 27) dX7_tick_39 (by decide) ?_
        refine J_sub [1, 2, 0] (lv1 := [(0, .ref (ad 0 0)), (1, .int a1), (2, .int (x13 + 1))]) rfl ?_
        exact ihrec15 _ _ h
    · rw [if_neg q10] at h
      refine J_iconst (v := 0) (pc1 := 24) dX7_tick_23 (by decide) rfl ?_
      cases h
      exact J_iret hr hlk dX7_tick_24
  refine J_if_ne (tgt := 16) (pc1 := 12) dX7_tick_9 (by decide) (fun q6 => ?_) rfl (fun q6 => ?_)
  · rw [if_neg q6] at e4
    subst e4
    refine J_iconst (v := 0) (pc1 := 17) dX7_tick_16 (by decide) rfl ?_
    exact k5
  · rw [if_pos q6] at e4
    subst e4
    refine J_iconst (v := 1) (pc1 := 13) dX7_tick_12 (by decide) rfl ?_
    refine J_goto (tgt := 17) dX7_tick_13 (by decide) ?_
    exact k5
def mX7_setDelay (a1 : Int32) (μ : gM) : Option (Int32 × gM) :=
  gBp (mX7_isBetween a1 1 5 μ) fun r2 =>
  gLet (α := Int32) (if r2 = 0 then 1 else 0) fun x3 =>
  gBd (mX7_fails 1 x3 μ) fun r8 μ9 =>
  if r8 = 0 then
    gLet (α := Int32) (μ9 1 0 1) fun x11 =>
    gLet (α := gM) (w3 μ9 1 0 1 a1) fun μ15 =>
    some (x11, μ15)
  else
    some (0, μ9)
set_option maxHeartbeats 4000000 in
set_option maxRecDepth 100000 in
theorem kX7_setDelay (l : Launch) (D : va_G) (tc : Nat → ClassId) (sa : Nat → Nat) (ad : Nat → Nat → Nat) (hI : gI gE_R ad) (a1 : Int32) (μ : gM) (r : Int32) (μ' : gM) (h : mX7_setDelay a1 μ = some (r, μ')) : gMet l yX7_setDelay cX7_setDelay 3 (some .int) ({ frames := 1, cells := 0, slots := 0, locals := 22 } : Room) D gE_R gkd_R tc ad grh_R sa [.ref (ad 0 0), .int a1] μ (some (.int r)) μ' := by
  refine gMet_of hI ⟨by decide +kernel, Nat.le_of_ble_eq_true rfl⟩ (fun p e s m args below meth c sz hr hlk => ?_)
  unfold mX7_setDelay at h
  show JR p l e ({ frames := 1, cells := 0, slots := 0, locals := 22 } : Room) s m args below meth c cX7_setDelay 3 RX7 D tc sa ad sz (some (.int r)) μ' μ 0 [(0, .ref (ad 0 0)), (1, .int a1)] []
  refine J_aload_n (i := 0) (q := 0) (pc1 := 1) dX7_setDelay_0 rfl rfl rfl ?_
  refine J_iconst (v := 1) (pc1 := 2) dX7_setDelay_1 (by decide) rfl ?_
  refine J_iload_n (i := 1) (q := 1) (pc1 := 3) dX7_setDelay_2 rfl rfl rfl ?_
  refine J_iconst (v := 1) (pc1 := 4) dX7_setDelay_3 (by decide) rfl ?_
  refine J_iconst (v := 5) (pc1 := 5) dX7_setDelay_4 (by decide) rfl ?_
  obtain ⟨r2, hc1, h⟩ := gBp_s h
  refine J_callS (As := [.int a1, .int 1, .int 5]) (st := [.int 1, .ref (ad 0 0)]) (st1 := [.int r2, .int 1, .ref (ad 0 0)]) (pc1 := 8) (kX7_isBetween l D tc sa ad hI a1 1 5 μ r2 hc1) wcX7_isBetween wlX7_34 rfl ⟨rfl, rfl, Nat.le_of_ble_eq_true rfl, Nat.le_of_ble_eq_true rfl⟩ ⟨Nat.zero_le _, Nat.zero_le _⟩ (Nat.le_of_ble_eq_true rfl) dX7_setDelay_5 rfl rfl ?_
  obtain ⟨x3, e4, h⟩ := gLet_s h
  have k5 : JR p l e ({ frames := 1, cells := 0, slots := 0, locals := 22 } : Room) s m args below meth c cX7_setDelay 3 RX7 D tc sa ad sz (some (.int r)) μ' μ 16 [(0, .ref (ad 0 0)), (1, .int a1)] [.int x3, .int 1, .ref (ad 0 0)] := by
    obtain ⟨r8, μ9, hc7, h⟩ := gBd_s h
    refine J_callV (As := [.int 1, .int x3]) (ad := ad) (f := 0) (i := 0) (st := []) (st1 := [.int r8]) (pc1 := 19) (kX7_fails l D tc sa ad hI 1 x3 μ r8 μ9 hc7) wcX7_fails wlX7_55 eR0 rfl rfl rfl ⟨rfl, rfl, Nat.le_of_ble_eq_true rfl, Nat.le_of_ble_eq_true rfl⟩ ⟨Nat.zero_le _, Nat.zero_le _⟩ (Nat.le_of_ble_eq_true rfl) dX7_setDelay_16 rfl rfl ?_
    refine J_if_eq (tgt := 24) (pc1 := 22) dX7_setDelay_19 (by decide) (fun q10 => ?_) rfl (fun q10 => ?_)
    · rw [if_pos q10] at h
      refine J_aload_n (i := 0) (q := 0) (pc1 := 25) dX7_setDelay_24 rfl rfl rfl ?_
      refine J_getR (T := TX7) (f' := 1) (i' := 0) (pc1 := 28) eR0 rfl rfl inX7 1 (by decide) rfl rfl flX7_9 rfl dX7_setDelay_25 rfl ?_
      refine J_iconst (v := 1) (pc1 := 29) dX7_setDelay_28 (by decide) rfl ?_
      refine J_iald (ix := 1) (pc1 := 30) (by decide) eR1 rfl (by decide : inb 1 1616) dX7_setDelay_29 rfl ?_
      obtain ⟨x11, e13, h⟩ := gLet_s h
      refine J_top (fun y12 e14 => ?_)
      have e14x : x11 = y12 := (e14.trans e13.symm).symm
      subst e14x
      refine J_istore_n (i := 2) (lv1 := [(2, .int x11), (0, .ref (ad 0 0)), (1, .int a1)]) (pc1 := 31) dX7_setDelay_30 rfl (by decide) rfl rfl ?_
      refine J_aload_n (i := 0) (q := 1) (pc1 := 32) dX7_setDelay_31 rfl rfl rfl ?_
      refine J_getR (T := TX7) (f' := 1) (i' := 0) (pc1 := 35) eR0 rfl rfl inX7 1 (by decide) rfl rfl flX7_9 rfl dX7_setDelay_32 rfl ?_
      refine J_iconst (v := 1) (pc1 := 36) dX7_setDelay_35 (by decide) rfl ?_
      refine J_iload_n (i := 1) (q := 2) (pc1 := 37) dX7_setDelay_36 rfl rfl rfl ?_
      refine J_iast (ix := 1) (pc1 := 38) (by decide) eR1 rfl (by decide : inb 1 1616) dX7_setDelay_37 rfl ?_
      obtain ⟨μ15, e16, h⟩ := gLet_s h
      rw [← e16]
      clear e16
      refine J_iload_n (i := 2) (q := 0) (pc1 := 39) dX7_setDelay_38 rfl rfl rfl ?_
      cases h
      exact J_iret hr hlk dX7_setDelay_39
    · rw [if_neg q10] at h
      refine J_iconst (v := 0) (pc1 := 23) dX7_setDelay_22 (by decide) rfl ?_
      cases h
      exact J_iret hr hlk dX7_setDelay_23
  refine J_if_ne (tgt := 15) (pc1 := 11) dX7_setDelay_8 (by decide) (fun q6 => ?_) rfl (fun q6 => ?_)
  · rw [if_neg q6] at e4
    subst e4
    refine J_iconst (v := 0) (pc1 := 16) dX7_setDelay_15 (by decide) rfl ?_
    exact k5
  · rw [if_pos q6] at e4
    subst e4
    refine J_iconst (v := 1) (pc1 := 12) dX7_setDelay_11 (by decide) rfl ?_
    refine J_goto (tgt := 16) dX7_setDelay_12 (by decide) ?_
    exact k5
def mX7_setLink (a1 : Int32) (a2 : Int32) (a3 : Int32) (μ : gM) : Option (Int32 × gM) :=
  gBp (mX7_isNode a1 μ) fun r2 =>
  gJon (fun (x3 : Int32) =>
      gBd (mX7_fails 1 x3 μ) fun r6 μ7 =>
      if r6 = 0 then
        gLet (α := Int32) (if a1 = a2 then 1 else 0) fun x9 =>
        gBd (mX7_fails 2 x9 μ7) fun r14 μ15 =>
        if r14 = 0 then
          gChk (inb (4 + a1) 1616) <|
          gBp (mX7_has (μ15 1 0 ((4 + a1).toNatClampNeg)) a2 μ15) fun r19 =>
          gJon (fun (x20 : Int32) =>
              gChk (inb (4 + a1) 1616) <|
              gLet (α := gM) (w3 μ15 1 0 ((4 + a1).toNatClampNeg) x20) fun μ23 =>
              gJon (fun (x25 : Int32) =>
                  gChk (inb (4 + a2) 1616) <|
                  gLet (α := gM) (w3 μ23 1 0 ((4 + a2).toNatClampNeg) x25) fun μ28 =>
                  gChk (r19 = 0 ∨ r19 = 1) <|
                  some (r19, μ28)) fun j26 =>
              if a3 = 0 then
                gChk (inb (4 + a2) 1616) <|
                j26 ((μ23 1 0 ((4 + a2).toNatClampNeg)) &&& ((1 <<< (a1 &&& 31)) ^^^ (-1)))
              else
                gChk (inb (4 + a2) 1616) <|
                j26 ((μ23 1 0 ((4 + a2).toNatClampNeg)) ||| (1 <<< (a1 &&& 31)))) fun j21 =>
          if a3 = 0 then
            gChk (inb (4 + a1) 1616) <|
            j21 ((μ15 1 0 ((4 + a1).toNatClampNeg)) &&& ((1 <<< (a2 &&& 31)) ^^^ (-1)))
          else
            gChk (inb (4 + a1) 1616) <|
            j21 ((μ15 1 0 ((4 + a1).toNatClampNeg)) ||| (1 <<< (a2 &&& 31)))
        else
          some (0, μ15)
      else
        some (0, μ7)) fun j4 =>
  gJon (fun (u38 : Unit) =>
      j4 1) fun j37 =>
  if r2 = 0 then
    j37 () 
  else
    gBp (mX7_isNode a2 μ) fun r41 =>
    gLet (α := Int32) (if r41 = 0 then 1 else 0) fun x42 =>
    gBd (mX7_fails 1 x42 μ) fun r47 μ48 =>
    if r47 = 0 then
      gLet (α := Int32) (if a1 = a2 then 1 else 0) fun x50 =>
      gBd (mX7_fails 2 x50 μ48) fun r55 μ56 =>
      if r55 = 0 then
        gChk (inb (4 + a1) 1616) <|
        gBp (mX7_has (μ56 1 0 ((4 + a1).toNatClampNeg)) a2 μ56) fun r60 =>
        gJon (fun (x61 : Int32) =>
            gChk (inb (4 + a1) 1616) <|
            gLet (α := gM) (w3 μ56 1 0 ((4 + a1).toNatClampNeg) x61) fun μ64 =>
            gJon (fun (x66 : Int32) =>
                gChk (inb (4 + a2) 1616) <|
                gLet (α := gM) (w3 μ64 1 0 ((4 + a2).toNatClampNeg) x66) fun μ69 =>
                gChk (r60 = 0 ∨ r60 = 1) <|
                some (r60, μ69)) fun j67 =>
            if a3 = 0 then
              gChk (inb (4 + a2) 1616) <|
              j67 ((μ64 1 0 ((4 + a2).toNatClampNeg)) &&& ((1 <<< (a1 &&& 31)) ^^^ (-1)))
            else
              gChk (inb (4 + a2) 1616) <|
              j67 ((μ64 1 0 ((4 + a2).toNatClampNeg)) ||| (1 <<< (a1 &&& 31)))) fun j62 =>
        if a3 = 0 then
          gChk (inb (4 + a1) 1616) <|
          j62 ((μ56 1 0 ((4 + a1).toNatClampNeg)) &&& ((1 <<< (a2 &&& 31)) ^^^ (-1)))
        else
          gChk (inb (4 + a1) 1616) <|
          j62 ((μ56 1 0 ((4 + a1).toNatClampNeg)) ||| (1 <<< (a2 &&& 31)))
      else
        some (0, μ56)
    else
      some (0, μ48)
set_option maxHeartbeats 4000000 in
set_option maxRecDepth 100000 in
theorem kX7_setLink (l : Launch) (D : va_G) (tc : Nat → ClassId) (sa : Nat → Nat) (ad : Nat → Nat → Nat) (hI : gI gE_R ad) (a1 : Int32) (a2 : Int32) (a3 : Int32) (μ : gM) (r : Int32) (μ' : gM) (h : mX7_setLink a1 a2 a3 μ = some (r, μ')) : gMet l yX7_setLink cX7_setLink 5 (some .boolean) ({ frames := 2, cells := 0, slots := 0, locals := 42 } : Room) D gE_R gkd_R tc ad grh_R sa [.ref (ad 0 0), .int a1, .int a2, .int a3] μ (some (.int r)) μ' := by
  refine gMet_of hI ⟨by decide +kernel, Nat.le_of_ble_eq_true rfl⟩ (fun p e s m args below meth c sz hr hlk => ?_)
  unfold mX7_setLink at h
  show JR p l e ({ frames := 2, cells := 0, slots := 0, locals := 42 } : Room) s m args below meth c cX7_setLink 5 RX7 D tc sa ad sz (some (.int r)) μ' μ 0 [(0, .ref (ad 0 0)), (1, .int a1), (2, .int a2), (3, .int a3)] []
  refine J_aload_n (i := 0) (q := 0) (pc1 := 1) dX7_setLink_0 rfl rfl rfl ?_
  refine J_iconst (v := 1) (pc1 := 2) dX7_setLink_1 (by decide) rfl ?_
  refine J_iload_n (i := 1) (q := 1) (pc1 := 3) dX7_setLink_2 rfl rfl rfl ?_
  obtain ⟨r2, hc1, h⟩ := gBp_s h
  refine J_callS (As := [.int a1]) (st := [.int 1, .ref (ad 0 0)]) (st1 := [.int r2, .int 1, .ref (ad 0 0)]) (pc1 := 6) (kX7_isNode l D tc sa ad hI a1 μ r2 hc1) wcX7_isNode wlX7_185 rfl ⟨rfl, rfl, Nat.le_of_ble_eq_true rfl, Nat.le_of_ble_eq_true rfl⟩ ⟨Nat.zero_le _, Nat.zero_le _⟩ (Nat.le_of_ble_eq_true rfl) dX7_setLink_3 rfl rfl ?_
  obtain ⟨j4, ej4, h⟩ := gJon_s h
  have kj4 : ∀ (x3 : Int32), j4 x3 = some (r, μ') → JR p l e ({ frames := 2, cells := 0, slots := 0, locals := 42 } : Room) s m args below meth c cX7_setLink 5 RX7 D tc sa ad sz (some (.int r)) μ' μ 21 [(0, .ref (ad 0 0)), (1, .int a1), (2, .int a2), (3, .int a3)] [.int x3, .int 1, .ref (ad 0 0)] := by
    intro x3 h
    rw [ej4] at h
    try dsimp only at h
    obtain ⟨r6, μ7, hc5, h⟩ := gBd_s h
    refine J_callV (As := [.int 1, .int x3]) (ad := ad) (f := 0) (i := 0) (st := []) (st1 := [.int r6]) (pc1 := 24) (kX7_fails l D tc sa ad hI 1 x3 μ r6 μ7 hc5) wcX7_fails wlX7_55 eR0 rfl rfl rfl ⟨rfl, rfl, Nat.le_of_ble_eq_true rfl, Nat.le_of_ble_eq_true rfl⟩ ⟨Nat.zero_le _, Nat.zero_le _⟩ (Nat.le_of_ble_eq_true rfl) dX7_setLink_21 rfl rfl ?_
    refine J_if_ne (tgt := 45) (pc1 := 27) dX7_setLink_24 (by decide) (fun q8 => ?_) rfl (fun q8 => ?_)
    · rw [if_neg q8] at h
      refine J_iconst (v := 0) (pc1 := 46) dX7_setLink_45 (by decide) rfl ?_
      cases h
      exact J_zret (by decide) hr hlk dX7_setLink_46
    · rw [if_pos q8] at h
      refine J_aload_n (i := 0) (q := 0) (pc1 := 28) dX7_setLink_27 rfl rfl rfl ?_
      refine J_iconst (v := 2) (pc1 := 29) dX7_setLink_28 (by decide) rfl ?_
      refine J_iload_n (i := 1) (q := 1) (pc1 := 30) dX7_setLink_29 rfl rfl rfl ?_
      refine J_iload_n (i := 2) (q := 2) (pc1 := 31) dX7_setLink_30 rfl rfl rfl ?_
      obtain ⟨x9, e10, h⟩ := gLet_s h
      have k11 : JR p l e ({ frames := 2, cells := 0, slots := 0, locals := 42 } : Room) s m args below meth c cX7_setLink 5 RX7 D tc sa ad sz (some (.int r)) μ' μ7 39 [(0, .ref (ad 0 0)), (1, .int a1), (2, .int a2), (3, .int a3)] [.int x9, .int 2, .ref (ad 0 0)] := by
        obtain ⟨r14, μ15, hc13, h⟩ := gBd_s h
        refine J_callV (As := [.int 2, .int x9]) (ad := ad) (f := 0) (i := 0) (st := []) (st1 := [.int r14]) (pc1 := 42) (kX7_fails l D tc sa ad hI 2 x9 μ7 r14 μ15 hc13) wcX7_fails wlX7_55 eR0 rfl rfl rfl ⟨rfl, rfl, Nat.le_of_ble_eq_true rfl, Nat.le_of_ble_eq_true rfl⟩ ⟨Nat.zero_le _, Nat.zero_le _⟩ (Nat.le_of_ble_eq_true rfl) dX7_setLink_39 rfl rfl ?_
        refine J_if_eq (tgt := 47) (pc1 := 45) dX7_setLink_42 (by decide) (fun q16 => ?_) rfl (fun q16 => ?_)
        · rw [if_pos q16] at h
          refine J_aload_n (i := 0) (q := 0) (pc1 := 48) dX7_setLink_47 rfl rfl rfl ?_
          refine J_getR (T := TX7) (f' := 1) (i' := 0) (pc1 := 51) eR0 rfl rfl inX7 1 (by decide) rfl rfl flX7_9 rfl dX7_setLink_48 rfl ?_
          refine J_iconst (v := 4) (pc1 := 52) dX7_setLink_51 (by decide) rfl ?_
          refine J_iload_n (i := 1) (q := 1) (pc1 := 53) dX7_setLink_52 rfl rfl rfl ?_
          refine J_iadd (pc1 := 54) dX7_setLink_53 rfl ?_
          obtain ⟨h17, h⟩ := gChk_s h
          refine J_iald (ix := ((4 + a1).toNatClampNeg)) (pc1 := 55) rfl eR1 rfl h17 dX7_setLink_54 rfl ?_
          refine J_iload_n (i := 2) (q := 2) (pc1 := 56) dX7_setLink_55 rfl rfl rfl ?_
          obtain ⟨r19, hc18, h⟩ := gBp_s h
          refine J_callS (As := [.int (μ15 1 0 ((4 + a1).toNatClampNeg)), .int a2]) (st := []) (st1 := [.int r19]) (pc1 := 59) (kX7_has l D tc sa ad hI (μ15 1 0 ((4 + a1).toNatClampNeg)) a2 μ15 r19 hc18) wcX7_has wlX7_89 rfl ⟨rfl, rfl, Nat.le_of_ble_eq_true rfl, Nat.le_of_ble_eq_true rfl⟩ ⟨Nat.zero_le _, Nat.zero_le _⟩ (Nat.le_of_ble_eq_true rfl) dX7_setLink_56 rfl rfl ?_
          refine J_istore (i := 4) (lv1 := [(4, .int r19), (0, .ref (ad 0 0)), (1, .int a1), (2, .int a2), (3, .int a3)]) (pc1 := 61) dX7_setLink_59 (by decide) rfl rfl ?_
          refine J_aload_n (i := 0) (q := 1) (pc1 := 62) dX7_setLink_61 rfl rfl rfl ?_
          refine J_getR (T := TX7) (f' := 1) (i' := 0) (pc1 := 65) eR0 rfl rfl inX7 1 (by decide) rfl rfl flX7_9 rfl dX7_setLink_62 rfl ?_
          refine J_iconst (v := 4) (pc1 := 66) dX7_setLink_65 (by decide) rfl ?_
          refine J_iload_n (i := 1) (q := 2) (pc1 := 67) dX7_setLink_66 rfl rfl rfl ?_
          refine J_iadd (pc1 := 68) dX7_setLink_67 rfl ?_
          refine J_iload_n (i := 3) (q := 4) (pc1 := 69) dX7_setLink_68 rfl rfl rfl ?_
          obtain ⟨j21, ej21, h⟩ := gJon_s h
          have kj21 : ∀ (x20 : Int32), j21 x20 = some (r, μ') → JR p l e ({ frames := 2, cells := 0, slots := 0, locals := 42 } : Room) s m args below meth c cX7_setLink 5 RX7 D tc sa ad sz (some (.int r)) μ' μ15 101 [(0, .ref (ad 0 0)), (1, .int a1), (2, .int a2), (3, .int a3), (4, .int r19)] [.int x20, .int (4 + a1), .ref (ad 1 0)] := by
            intro x20 h
            rw [ej21] at h
            try dsimp only at h
            obtain ⟨h22, h⟩ := gChk_s h
            refine J_iast (ix := ((4 + a1).toNatClampNeg)) (pc1 := 102) rfl eR1 rfl h22 dX7_setLink_101 rfl ?_
            obtain ⟨μ23, e24, h⟩ := gLet_s h
            rw [← e24]
            clear e24
            refine J_aload_n (i := 0) (q := 0) (pc1 := 103) dX7_setLink_102 rfl rfl rfl ?_
            refine J_getR (T := TX7) (f' := 1) (i' := 0) (pc1 := 106) eR0 rfl rfl inX7 1 (by decide) rfl rfl flX7_9 rfl dX7_setLink_103 rfl ?_
            refine J_iconst (v := 4) (pc1 := 107) dX7_setLink_106 (by decide) rfl ?_
            refine J_iload_n (i := 2) (q := 2) (pc1 := 108) dX7_setLink_107 rfl rfl rfl ?_
            refine J_iadd (pc1 := 109) dX7_setLink_108 rfl ?_
            refine J_iload_n (i := 3) (q := 3) (pc1 := 110) dX7_setLink_109 rfl rfl rfl ?_
            obtain ⟨j26, ej26, h⟩ := gJon_s h
            have kj26 : ∀ (x25 : Int32), j26 x25 = some (r, μ') → JR p l e ({ frames := 2, cells := 0, slots := 0, locals := 42 } : Room) s m args below meth c cX7_setLink 5 RX7 D tc sa ad sz (some (.int r)) μ' μ23 142 [(4, .int r19)] [.int x25, .int (4 + a2), .ref (ad 1 0)] := by
              intro x25 h
              rw [ej26] at h
              try dsimp only at h
              obtain ⟨h27, h⟩ := gChk_s h
              refine J_iast (ix := ((4 + a2).toNatClampNeg)) (pc1 := 143) rfl eR1 rfl h27 dX7_setLink_142 rfl ?_
              obtain ⟨μ28, e29, h⟩ := gLet_s h
              rw [← e29]
              clear e29
              refine J_iload (i := 4) (q := 0) (pc1 := 145) dX7_setLink_143 rfl rfl ?_
              obtain ⟨h30, h⟩ := gChk_s h
              cases h
              exact J_zret h30 hr hlk dX7_setLink_145
            clear ej26
            refine J_if_eq (tgt := 128) (pc1 := 113) dX7_setLink_110 (by decide) (fun q31 => ?_) rfl (fun q31 => ?_)
            · rw [if_pos q31] at h
              refine J_aload_n (i := 0) (q := 0) (pc1 := 129) dX7_setLink_128 rfl rfl rfl ?_
              refine J_getR (T := TX7) (f' := 1) (i' := 0) (pc1 := 132) eR0 rfl rfl inX7 1 (by decide) rfl rfl flX7_9 rfl dX7_setLink_129 rfl ?_
              refine J_iconst (v := 4) (pc1 := 133) dX7_setLink_132 (by decide) rfl ?_
              refine J_iload_n (i := 2) (q := 2) (pc1 := 134) dX7_setLink_133 rfl rfl rfl ?_
              refine J_iadd (pc1 := 135) dX7_setLink_134 rfl ?_
              obtain ⟨h32, h⟩ := gChk_s h
              refine J_iald (ix := ((4 + a2).toNatClampNeg)) (pc1 := 136) rfl eR1 rfl h32 dX7_setLink_135 rfl ?_
              refine J_iconst (v := 1) (pc1 := 137) dX7_setLink_136 (by decide) rfl ?_
              refine J_iload_n (i := 1) (q := 1) (pc1 := 138) dX7_setLink_137 rfl rfl rfl ?_
              refine J_ishl (pc1 := 139) dX7_setLink_138 rfl ?_
              refine J_iconst (v := (-1)) (pc1 := 140) dX7_setLink_139 (by decide) rfl ?_
              refine J_ixor (pc1 := 141) dX7_setLink_140 rfl ?_
              refine J_iand (pc1 := 142) dX7_setLink_141 rfl ?_
              refine J_sub [4] (lv1 := [(4, .int r19)]) rfl ?_
              exact kj26 _ h
            · rw [if_neg q31] at h
              refine J_aload_n (i := 0) (q := 0) (pc1 := 114) dX7_setLink_113 rfl rfl rfl ?_
              refine J_getR (T := TX7) (f' := 1) (i' := 0) (pc1 := 117) eR0 rfl rfl inX7 1 (by decide) rfl rfl flX7_9 rfl dX7_setLink_114 rfl ?_
              refine J_iconst (v := 4) (pc1 := 118) dX7_setLink_117 (by decide) rfl ?_
              refine J_iload_n (i := 2) (q := 2) (pc1 := 119) dX7_setLink_118 rfl rfl rfl ?_
              refine J_iadd (pc1 := 120) dX7_setLink_119 rfl ?_
              obtain ⟨h33, h⟩ := gChk_s h
              refine J_iald (ix := ((4 + a2).toNatClampNeg)) (pc1 := 121) rfl eR1 rfl h33 dX7_setLink_120 rfl ?_
              refine J_iconst (v := 1) (pc1 := 122) dX7_setLink_121 (by decide) rfl ?_
              refine J_iload_n (i := 1) (q := 1) (pc1 := 123) dX7_setLink_122 rfl rfl rfl ?_
              refine J_ishl (pc1 := 124) dX7_setLink_123 rfl ?_
              refine J_ior (pc1 := 125) dX7_setLink_124 rfl ?_
              refine J_goto (tgt := 142) dX7_setLink_125 (by decide) ?_
              refine J_sub [4] (lv1 := [(4, .int r19)]) rfl ?_
              exact kj26 _ h
          clear ej21
          refine J_if_eq (tgt := 87) (pc1 := 72) dX7_setLink_69 (by decide) (fun q34 => ?_) rfl (fun q34 => ?_)
          · rw [if_pos q34] at h
            refine J_aload_n (i := 0) (q := 1) (pc1 := 88) dX7_setLink_87 rfl rfl rfl ?_
            refine J_getR (T := TX7) (f' := 1) (i' := 0) (pc1 := 91) eR0 rfl rfl inX7 1 (by decide) rfl rfl flX7_9 rfl dX7_setLink_88 rfl ?_
            refine J_iconst (v := 4) (pc1 := 92) dX7_setLink_91 (by decide) rfl ?_
            refine J_iload_n (i := 1) (q := 2) (pc1 := 93) dX7_setLink_92 rfl rfl rfl ?_
            refine J_iadd (pc1 := 94) dX7_setLink_93 rfl ?_
            obtain ⟨h35, h⟩ := gChk_s h
            refine J_iald (ix := ((4 + a1).toNatClampNeg)) (pc1 := 95) rfl eR1 rfl h35 dX7_setLink_94 rfl ?_
            refine J_iconst (v := 1) (pc1 := 96) dX7_setLink_95 (by decide) rfl ?_
            refine J_iload_n (i := 2) (q := 3) (pc1 := 97) dX7_setLink_96 rfl rfl rfl ?_
            refine J_ishl (pc1 := 98) dX7_setLink_97 rfl ?_
            refine J_iconst (v := (-1)) (pc1 := 99) dX7_setLink_98 (by decide) rfl ?_
            refine J_ixor (pc1 := 100) dX7_setLink_99 rfl ?_
            refine J_iand (pc1 := 101) dX7_setLink_100 rfl ?_
            refine J_sub [1, 2, 3, 4, 0] (lv1 := [(0, .ref (ad 0 0)), (1, .int a1), (2, .int a2), (3, .int a3), (4, .int r19)]) rfl ?_
            exact kj21 _ h
          · rw [if_neg q34] at h
            refine J_aload_n (i := 0) (q := 1) (pc1 := 73) dX7_setLink_72 rfl rfl rfl ?_
            refine J_getR (T := TX7) (f' := 1) (i' := 0) (pc1 := 76) eR0 rfl rfl inX7 1 (by decide) rfl rfl flX7_9 rfl dX7_setLink_73 rfl ?_
            refine J_iconst (v := 4) (pc1 := 77) dX7_setLink_76 (by decide) rfl ?_
            refine J_iload_n (i := 1) (q := 2) (pc1 := 78) dX7_setLink_77 rfl rfl rfl ?_
            refine J_iadd (pc1 := 79) dX7_setLink_78 rfl ?_
            obtain ⟨h36, h⟩ := gChk_s h
            refine J_iald (ix := ((4 + a1).toNatClampNeg)) (pc1 := 80) rfl eR1 rfl h36 dX7_setLink_79 rfl ?_
            refine J_iconst (v := 1) (pc1 := 81) dX7_setLink_80 (by decide) rfl ?_
            refine J_iload_n (i := 2) (q := 3) (pc1 := 82) dX7_setLink_81 rfl rfl rfl ?_
            refine J_ishl (pc1 := 83) dX7_setLink_82 rfl ?_
            refine J_ior (pc1 := 84) dX7_setLink_83 rfl ?_
            refine J_goto (tgt := 101) dX7_setLink_84 (by decide) ?_
            refine J_sub [1, 2, 3, 4, 0] (lv1 := [(0, .ref (ad 0 0)), (1, .int a1), (2, .int a2), (3, .int a3), (4, .int r19)]) rfl ?_
            exact kj21 _ h
        · rw [if_neg q16] at h
          refine J_iconst (v := 0) (pc1 := 46) dX7_setLink_45 (by decide) rfl ?_
          cases h
          exact J_zret (by decide) hr hlk dX7_setLink_46
      refine J_icmp_ne (tgt := 38) (pc1 := 34) dX7_setLink_31 (by decide) (fun q12 => ?_) rfl (fun q12 => ?_)
      · rw [if_neg q12] at e10
        subst e10
        refine J_iconst (v := 0) (pc1 := 39) dX7_setLink_38 (by decide) rfl ?_
        exact k11
      · rw [if_pos q12] at e10
        subst e10
        refine J_iconst (v := 1) (pc1 := 35) dX7_setLink_34 (by decide) rfl ?_
        refine J_goto (tgt := 39) dX7_setLink_35 (by decide) ?_
        exact k11
  clear ej4
  obtain ⟨j37, ej37, h⟩ := gJon_s h
  have kj37 : ∀ (u38 : Unit), j37 u38 = some (r, μ') → JR p l e ({ frames := 2, cells := 0, slots := 0, locals := 42 } : Room) s m args below meth c cX7_setLink 5 RX7 D tc sa ad sz (some (.int r)) μ' μ 16 [(0, .ref (ad 0 0)), (1, .int a1), (2, .int a2), (3, .int a3)] [.int 1, .ref (ad 0 0)] := by
    intro u38 h
    rw [ej37] at h
    try dsimp only at h
    refine J_iconst (v := 1) (pc1 := 17) dX7_setLink_16 (by decide) rfl ?_
    refine J_goto (tgt := 21) dX7_setLink_17 (by decide) ?_
    exact kj4 _ h
  clear ej37
  refine J_if_eq (tgt := 16) (pc1 := 9) dX7_setLink_6 (by decide) (fun q39 => ?_) rfl (fun q39 => ?_)
  · rw [if_pos q39] at h
    exact kj37 ()  h
  · rw [if_neg q39] at h
    refine J_iload_n (i := 2) (q := 2) (pc1 := 10) dX7_setLink_9 rfl rfl rfl ?_
    obtain ⟨r41, hc40, h⟩ := gBp_s h
    refine J_callS (As := [.int a2]) (st := [.int 1, .ref (ad 0 0)]) (st1 := [.int r41, .int 1, .ref (ad 0 0)]) (pc1 := 13) (kX7_isNode l D tc sa ad hI a2 μ r41 hc40) wcX7_isNode wlX7_185 rfl ⟨rfl, rfl, Nat.le_of_ble_eq_true rfl, Nat.le_of_ble_eq_true rfl⟩ ⟨Nat.zero_le _, Nat.zero_le _⟩ (Nat.le_of_ble_eq_true rfl) dX7_setLink_10 rfl rfl ?_
    obtain ⟨x42, e43, h⟩ := gLet_s h
    have k44 : JR p l e ({ frames := 2, cells := 0, slots := 0, locals := 42 } : Room) s m args below meth c cX7_setLink 5 RX7 D tc sa ad sz (some (.int r)) μ' μ 21 [(0, .ref (ad 0 0)), (1, .int a1), (2, .int a2), (3, .int a3)] [.int x42, .int 1, .ref (ad 0 0)] := by
      obtain ⟨r47, μ48, hc46, h⟩ := gBd_s h
      refine J_callV (As := [.int 1, .int x42]) (ad := ad) (f := 0) (i := 0) (st := []) (st1 := [.int r47]) (pc1 := 24) (kX7_fails l D tc sa ad hI 1 x42 μ r47 μ48 hc46) wcX7_fails wlX7_55 eR0 rfl rfl rfl ⟨rfl, rfl, Nat.le_of_ble_eq_true rfl, Nat.le_of_ble_eq_true rfl⟩ ⟨Nat.zero_le _, Nat.zero_le _⟩ (Nat.le_of_ble_eq_true rfl) dX7_setLink_21 rfl rfl ?_
      refine J_if_ne (tgt := 45) (pc1 := 27) dX7_setLink_24 (by decide) (fun q49 => ?_) rfl (fun q49 => ?_)
      · rw [if_neg q49] at h
        refine J_iconst (v := 0) (pc1 := 46) dX7_setLink_45 (by decide) rfl ?_
        cases h
        exact J_zret (by decide) hr hlk dX7_setLink_46
      · rw [if_pos q49] at h
        refine J_aload_n (i := 0) (q := 0) (pc1 := 28) dX7_setLink_27 rfl rfl rfl ?_
        refine J_iconst (v := 2) (pc1 := 29) dX7_setLink_28 (by decide) rfl ?_
        refine J_iload_n (i := 1) (q := 1) (pc1 := 30) dX7_setLink_29 rfl rfl rfl ?_
        refine J_iload_n (i := 2) (q := 2) (pc1 := 31) dX7_setLink_30 rfl rfl rfl ?_
        obtain ⟨x50, e51, h⟩ := gLet_s h
        have k52 : JR p l e ({ frames := 2, cells := 0, slots := 0, locals := 42 } : Room) s m args below meth c cX7_setLink 5 RX7 D tc sa ad sz (some (.int r)) μ' μ48 39 [(0, .ref (ad 0 0)), (1, .int a1), (2, .int a2), (3, .int a3)] [.int x50, .int 2, .ref (ad 0 0)] := by
          obtain ⟨r55, μ56, hc54, h⟩ := gBd_s h
          refine J_callV (As := [.int 2, .int x50]) (ad := ad) (f := 0) (i := 0) (st := []) (st1 := [.int r55]) (pc1 := 42) (kX7_fails l D tc sa ad hI 2 x50 μ48 r55 μ56 hc54) wcX7_fails wlX7_55 eR0 rfl rfl rfl ⟨rfl, rfl, Nat.le_of_ble_eq_true rfl, Nat.le_of_ble_eq_true rfl⟩ ⟨Nat.zero_le _, Nat.zero_le _⟩ (Nat.le_of_ble_eq_true rfl) dX7_setLink_39 rfl rfl ?_
          refine J_if_eq (tgt := 47) (pc1 := 45) dX7_setLink_42 (by decide) (fun q57 => ?_) rfl (fun q57 => ?_)
          · rw [if_pos q57] at h
            refine J_aload_n (i := 0) (q := 0) (pc1 := 48) dX7_setLink_47 rfl rfl rfl ?_
            refine J_getR (T := TX7) (f' := 1) (i' := 0) (pc1 := 51) eR0 rfl rfl inX7 1 (by decide) rfl rfl flX7_9 rfl dX7_setLink_48 rfl ?_
            refine J_iconst (v := 4) (pc1 := 52) dX7_setLink_51 (by decide) rfl ?_
            refine J_iload_n (i := 1) (q := 1) (pc1 := 53) dX7_setLink_52 rfl rfl rfl ?_
            refine J_iadd (pc1 := 54) dX7_setLink_53 rfl ?_
            obtain ⟨h58, h⟩ := gChk_s h
            refine J_iald (ix := ((4 + a1).toNatClampNeg)) (pc1 := 55) rfl eR1 rfl h58 dX7_setLink_54 rfl ?_
            refine J_iload_n (i := 2) (q := 2) (pc1 := 56) dX7_setLink_55 rfl rfl rfl ?_
            obtain ⟨r60, hc59, h⟩ := gBp_s h
            refine J_callS (As := [.int (μ56 1 0 ((4 + a1).toNatClampNeg)), .int a2]) (st := []) (st1 := [.int r60]) (pc1 := 59) (kX7_has l D tc sa ad hI (μ56 1 0 ((4 + a1).toNatClampNeg)) a2 μ56 r60 hc59) wcX7_has wlX7_89 rfl ⟨rfl, rfl, Nat.le_of_ble_eq_true rfl, Nat.le_of_ble_eq_true rfl⟩ ⟨Nat.zero_le _, Nat.zero_le _⟩ (Nat.le_of_ble_eq_true rfl) dX7_setLink_56 rfl rfl ?_
            refine J_istore (i := 4) (lv1 := [(4, .int r60), (0, .ref (ad 0 0)), (1, .int a1), (2, .int a2), (3, .int a3)]) (pc1 := 61) dX7_setLink_59 (by decide) rfl rfl ?_
            refine J_aload_n (i := 0) (q := 1) (pc1 := 62) dX7_setLink_61 rfl rfl rfl ?_
            refine J_getR (T := TX7) (f' := 1) (i' := 0) (pc1 := 65) eR0 rfl rfl inX7 1 (by decide) rfl rfl flX7_9 rfl dX7_setLink_62 rfl ?_
            refine J_iconst (v := 4) (pc1 := 66) dX7_setLink_65 (by decide) rfl ?_
            refine J_iload_n (i := 1) (q := 2) (pc1 := 67) dX7_setLink_66 rfl rfl rfl ?_
            refine J_iadd (pc1 := 68) dX7_setLink_67 rfl ?_
            refine J_iload_n (i := 3) (q := 4) (pc1 := 69) dX7_setLink_68 rfl rfl rfl ?_
            obtain ⟨j62, ej62, h⟩ := gJon_s h
            have kj62 : ∀ (x61 : Int32), j62 x61 = some (r, μ') → JR p l e ({ frames := 2, cells := 0, slots := 0, locals := 42 } : Room) s m args below meth c cX7_setLink 5 RX7 D tc sa ad sz (some (.int r)) μ' μ56 101 [(0, .ref (ad 0 0)), (1, .int a1), (2, .int a2), (3, .int a3), (4, .int r60)] [.int x61, .int (4 + a1), .ref (ad 1 0)] := by
              intro x61 h
              rw [ej62] at h
              try dsimp only at h
              obtain ⟨h63, h⟩ := gChk_s h
              refine J_iast (ix := ((4 + a1).toNatClampNeg)) (pc1 := 102) rfl eR1 rfl h63 dX7_setLink_101 rfl ?_
              obtain ⟨μ64, e65, h⟩ := gLet_s h
              rw [← e65]
              clear e65
              refine J_aload_n (i := 0) (q := 0) (pc1 := 103) dX7_setLink_102 rfl rfl rfl ?_
              refine J_getR (T := TX7) (f' := 1) (i' := 0) (pc1 := 106) eR0 rfl rfl inX7 1 (by decide) rfl rfl flX7_9 rfl dX7_setLink_103 rfl ?_
              refine J_iconst (v := 4) (pc1 := 107) dX7_setLink_106 (by decide) rfl ?_
              refine J_iload_n (i := 2) (q := 2) (pc1 := 108) dX7_setLink_107 rfl rfl rfl ?_
              refine J_iadd (pc1 := 109) dX7_setLink_108 rfl ?_
              refine J_iload_n (i := 3) (q := 3) (pc1 := 110) dX7_setLink_109 rfl rfl rfl ?_
              obtain ⟨j67, ej67, h⟩ := gJon_s h
              have kj67 : ∀ (x66 : Int32), j67 x66 = some (r, μ') → JR p l e ({ frames := 2, cells := 0, slots := 0, locals := 42 } : Room) s m args below meth c cX7_setLink 5 RX7 D tc sa ad sz (some (.int r)) μ' μ64 142 [(4, .int r60)] [.int x66, .int (4 + a2), .ref (ad 1 0)] := by
                intro x66 h
                rw [ej67] at h
                try dsimp only at h
                obtain ⟨h68, h⟩ := gChk_s h
                refine J_iast (ix := ((4 + a2).toNatClampNeg)) (pc1 := 143) rfl eR1 rfl h68 dX7_setLink_142 rfl ?_
                obtain ⟨μ69, e70, h⟩ := gLet_s h
                rw [← e70]
                clear e70
                refine J_iload (i := 4) (q := 0) (pc1 := 145) dX7_setLink_143 rfl rfl ?_
                obtain ⟨h71, h⟩ := gChk_s h
                cases h
                exact J_zret h71 hr hlk dX7_setLink_145
              clear ej67
              refine J_if_eq (tgt := 128) (pc1 := 113) dX7_setLink_110 (by decide) (fun q72 => ?_) rfl (fun q72 => ?_)
              · rw [if_pos q72] at h
                refine J_aload_n (i := 0) (q := 0) (pc1 := 129) dX7_setLink_128 rfl rfl rfl ?_
                refine J_getR (T := TX7) (f' := 1) (i' := 0) (pc1 := 132) eR0 rfl rfl inX7 1 (by decide) rfl rfl flX7_9 rfl dX7_setLink_129 rfl ?_
                refine J_iconst (v := 4) (pc1 := 133) dX7_setLink_132 (by decide) rfl ?_
                refine J_iload_n (i := 2) (q := 2) (pc1 := 134) dX7_setLink_133 rfl rfl rfl ?_
                refine J_iadd (pc1 := 135) dX7_setLink_134 rfl ?_
                obtain ⟨h73, h⟩ := gChk_s h
                refine J_iald (ix := ((4 + a2).toNatClampNeg)) (pc1 := 136) rfl eR1 rfl h73 dX7_setLink_135 rfl ?_
                refine J_iconst (v := 1) (pc1 := 137) dX7_setLink_136 (by decide) rfl ?_
                refine J_iload_n (i := 1) (q := 1) (pc1 := 138) dX7_setLink_137 rfl rfl rfl ?_
                refine J_ishl (pc1 := 139) dX7_setLink_138 rfl ?_
                refine J_iconst (v := (-1)) (pc1 := 140) dX7_setLink_139 (by decide) rfl ?_
                refine J_ixor (pc1 := 141) dX7_setLink_140 rfl ?_
                refine J_iand (pc1 := 142) dX7_setLink_141 rfl ?_
                refine J_sub [4] (lv1 := [(4, .int r60)]) rfl ?_
                exact kj67 _ h
              · rw [if_neg q72] at h
                refine J_aload_n (i := 0) (q := 0) (pc1 := 114) dX7_setLink_113 rfl rfl rfl ?_
                refine J_getR (T := TX7) (f' := 1) (i' := 0) (pc1 := 117) eR0 rfl rfl inX7 1 (by decide) rfl rfl flX7_9 rfl dX7_setLink_114 rfl ?_
                refine J_iconst (v := 4) (pc1 := 118) dX7_setLink_117 (by decide) rfl ?_
                refine J_iload_n (i := 2) (q := 2) (pc1 := 119) dX7_setLink_118 rfl rfl rfl ?_
                refine J_iadd (pc1 := 120) dX7_setLink_119 rfl ?_
                obtain ⟨h74, h⟩ := gChk_s h
                refine J_iald (ix := ((4 + a2).toNatClampNeg)) (pc1 := 121) rfl eR1 rfl h74 dX7_setLink_120 rfl ?_
                refine J_iconst (v := 1) (pc1 := 122) dX7_setLink_121 (by decide) rfl ?_
                refine J_iload_n (i := 1) (q := 1) (pc1 := 123) dX7_setLink_122 rfl rfl rfl ?_
                refine J_ishl (pc1 := 124) dX7_setLink_123 rfl ?_
                refine J_ior (pc1 := 125) dX7_setLink_124 rfl ?_
                refine J_goto (tgt := 142) dX7_setLink_125 (by decide) ?_
                refine J_sub [4] (lv1 := [(4, .int r60)]) rfl ?_
                exact kj67 _ h
            clear ej62
            refine J_if_eq (tgt := 87) (pc1 := 72) dX7_setLink_69 (by decide) (fun q75 => ?_) rfl (fun q75 => ?_)
            · rw [if_pos q75] at h
              refine J_aload_n (i := 0) (q := 1) (pc1 := 88) dX7_setLink_87 rfl rfl rfl ?_
              refine J_getR (T := TX7) (f' := 1) (i' := 0) (pc1 := 91) eR0 rfl rfl inX7 1 (by decide) rfl rfl flX7_9 rfl dX7_setLink_88 rfl ?_
              refine J_iconst (v := 4) (pc1 := 92) dX7_setLink_91 (by decide) rfl ?_
              refine J_iload_n (i := 1) (q := 2) (pc1 := 93) dX7_setLink_92 rfl rfl rfl ?_
              refine J_iadd (pc1 := 94) dX7_setLink_93 rfl ?_
              obtain ⟨h76, h⟩ := gChk_s h
              refine J_iald (ix := ((4 + a1).toNatClampNeg)) (pc1 := 95) rfl eR1 rfl h76 dX7_setLink_94 rfl ?_
              refine J_iconst (v := 1) (pc1 := 96) dX7_setLink_95 (by decide) rfl ?_
              refine J_iload_n (i := 2) (q := 3) (pc1 := 97) dX7_setLink_96 rfl rfl rfl ?_
              refine J_ishl (pc1 := 98) dX7_setLink_97 rfl ?_
              refine J_iconst (v := (-1)) (pc1 := 99) dX7_setLink_98 (by decide) rfl ?_
              refine J_ixor (pc1 := 100) dX7_setLink_99 rfl ?_
              refine J_iand (pc1 := 101) dX7_setLink_100 rfl ?_
              refine J_sub [1, 2, 3, 4, 0] (lv1 := [(0, .ref (ad 0 0)), (1, .int a1), (2, .int a2), (3, .int a3), (4, .int r60)]) rfl ?_
              exact kj62 _ h
            · rw [if_neg q75] at h
              refine J_aload_n (i := 0) (q := 1) (pc1 := 73) dX7_setLink_72 rfl rfl rfl ?_
              refine J_getR (T := TX7) (f' := 1) (i' := 0) (pc1 := 76) eR0 rfl rfl inX7 1 (by decide) rfl rfl flX7_9 rfl dX7_setLink_73 rfl ?_
              refine J_iconst (v := 4) (pc1 := 77) dX7_setLink_76 (by decide) rfl ?_
              refine J_iload_n (i := 1) (q := 2) (pc1 := 78) dX7_setLink_77 rfl rfl rfl ?_
              refine J_iadd (pc1 := 79) dX7_setLink_78 rfl ?_
              obtain ⟨h77, h⟩ := gChk_s h
              refine J_iald (ix := ((4 + a1).toNatClampNeg)) (pc1 := 80) rfl eR1 rfl h77 dX7_setLink_79 rfl ?_
              refine J_iconst (v := 1) (pc1 := 81) dX7_setLink_80 (by decide) rfl ?_
              refine J_iload_n (i := 2) (q := 3) (pc1 := 82) dX7_setLink_81 rfl rfl rfl ?_
              refine J_ishl (pc1 := 83) dX7_setLink_82 rfl ?_
              refine J_ior (pc1 := 84) dX7_setLink_83 rfl ?_
              refine J_goto (tgt := 101) dX7_setLink_84 (by decide) ?_
              refine J_sub [1, 2, 3, 4, 0] (lv1 := [(0, .ref (ad 0 0)), (1, .int a1), (2, .int a2), (3, .int a3), (4, .int r60)]) rfl ?_
              exact kj62 _ h
          · rw [if_neg q57] at h
            refine J_iconst (v := 0) (pc1 := 46) dX7_setLink_45 (by decide) rfl ?_
            cases h
            exact J_zret (by decide) hr hlk dX7_setLink_46
        refine J_icmp_ne (tgt := 38) (pc1 := 34) dX7_setLink_31 (by decide) (fun q53 => ?_) rfl (fun q53 => ?_)
        · rw [if_neg q53] at e51
          subst e51
          refine J_iconst (v := 0) (pc1 := 39) dX7_setLink_38 (by decide) rfl ?_
          exact k52
        · rw [if_pos q53] at e51
          subst e51
          refine J_iconst (v := 1) (pc1 := 35) dX7_setLink_34 (by decide) rfl ?_
          refine J_goto (tgt := 39) dX7_setLink_35 (by decide) ?_
          exact k52
    refine J_if_ne (tgt := 20) (pc1 := 16) dX7_setLink_13 (by decide) (fun q45 => ?_) rfl (fun q45 => ?_)
    · rw [if_neg q45] at e43
      subst e43
      refine J_iconst (v := 0) (pc1 := 21) dX7_setLink_20 (by decide) rfl ?_
      exact k44
    · rw [if_pos q45] at e43
      subst e43
      refine J_iconst (v := 1) (pc1 := 17) dX7_setLink_16 (by decide) rfl ?_
      refine J_goto (tgt := 21) dX7_setLink_17 (by decide) ?_
      exact k44
def mX7_crash (a1 : Int32) (μ : gM) : Option (Int32 × gM) :=
  gBp (mX7_isNode a1 μ) fun r2 =>
  gLet (α := Int32) (if r2 = 0 then 1 else 0) fun x3 =>
  gBd (mX7_fails 1 x3 μ) fun r8 μ9 =>
  if r8 = 0 then
    gBp (mX7_of a1 0 μ9) fun r12 =>
    gLet (α := Int32) (if r12 = 0 then 1 else 0) fun x13 =>
    gBd (mX7_fails 2 x13 μ9) fun r18 μ19 =>
    if r18 = 0 then
      gBp (mX7_set a1 0 0 μ19) fun μ22 =>
      gBp (mX7_set a1 1 0 μ22) fun μ24 =>
      gBp (mX7_of a1 2 μ24) fun r26 =>
      some (r26, μ24)
    else
      some (0, μ19)
  else
    some (0, μ9)
set_option maxHeartbeats 4000000 in
set_option maxRecDepth 100000 in
theorem kX7_crash (l : Launch) (D : va_G) (tc : Nat → ClassId) (sa : Nat → Nat) (ad : Nat → Nat → Nat) (hI : gI gE_R ad) (a1 : Int32) (μ : gM) (r : Int32) (μ' : gM) (h : mX7_crash a1 μ = some (r, μ')) : gMet l yX7_crash cX7_crash 2 (some .int) ({ frames := 2, cells := 0, slots := 0, locals := 42 } : Room) D gE_R gkd_R tc ad grh_R sa [.ref (ad 0 0), .int a1] μ (some (.int r)) μ' := by
  refine gMet_of hI ⟨by decide +kernel, Nat.le_of_ble_eq_true rfl⟩ (fun p e s m args below meth c sz hr hlk => ?_)
  unfold mX7_crash at h
  show JR p l e ({ frames := 2, cells := 0, slots := 0, locals := 42 } : Room) s m args below meth c cX7_crash 2 RX7 D tc sa ad sz (some (.int r)) μ' μ 0 [(0, .ref (ad 0 0)), (1, .int a1)] []
  refine J_aload_n (i := 0) (q := 0) (pc1 := 1) dX7_crash_0 rfl rfl rfl ?_
  refine J_iconst (v := 1) (pc1 := 2) dX7_crash_1 (by decide) rfl ?_
  refine J_iload_n (i := 1) (q := 1) (pc1 := 3) dX7_crash_2 rfl rfl rfl ?_
  obtain ⟨r2, hc1, h⟩ := gBp_s h
  refine J_callS (As := [.int a1]) (st := [.int 1, .ref (ad 0 0)]) (st1 := [.int r2, .int 1, .ref (ad 0 0)]) (pc1 := 6) (kX7_isNode l D tc sa ad hI a1 μ r2 hc1) wcX7_isNode wlX7_185 rfl ⟨rfl, rfl, Nat.le_of_ble_eq_true rfl, Nat.le_of_ble_eq_true rfl⟩ ⟨Nat.zero_le _, Nat.zero_le _⟩ (Nat.le_of_ble_eq_true rfl) dX7_crash_3 rfl rfl ?_
  obtain ⟨x3, e4, h⟩ := gLet_s h
  have k5 : JR p l e ({ frames := 2, cells := 0, slots := 0, locals := 42 } : Room) s m args below meth c cX7_crash 2 RX7 D tc sa ad sz (some (.int r)) μ' μ 14 [(0, .ref (ad 0 0)), (1, .int a1)] [.int x3, .int 1, .ref (ad 0 0)] := by
    obtain ⟨r8, μ9, hc7, h⟩ := gBd_s h
    refine J_callV (As := [.int 1, .int x3]) (ad := ad) (f := 0) (i := 0) (st := []) (st1 := [.int r8]) (pc1 := 17) (kX7_fails l D tc sa ad hI 1 x3 μ r8 μ9 hc7) wcX7_fails wlX7_55 eR0 rfl rfl rfl ⟨rfl, rfl, Nat.le_of_ble_eq_true rfl, Nat.le_of_ble_eq_true rfl⟩ ⟨Nat.zero_le _, Nat.zero_le _⟩ (Nat.le_of_ble_eq_true rfl) dX7_crash_14 rfl rfl ?_
    refine J_if_ne (tgt := 42) (pc1 := 20) dX7_crash_17 (by decide) (fun q10 => ?_) rfl (fun q10 => ?_)
    · rw [if_neg q10] at h
      refine J_iconst (v := 0) (pc1 := 43) dX7_crash_42 (by decide) rfl ?_
      cases h
      exact J_iret hr hlk dX7_crash_43
    · rw [if_pos q10] at h
      refine J_aload_n (i := 0) (q := 0) (pc1 := 21) dX7_crash_20 rfl rfl rfl ?_
      refine J_iconst (v := 2) (pc1 := 22) dX7_crash_21 (by decide) rfl ?_
      refine J_aload_n (i := 0) (q := 0) (pc1 := 23) dX7_crash_22 rfl rfl rfl ?_
      refine J_iload_n (i := 1) (q := 1) (pc1 := 24) dX7_crash_23 rfl rfl rfl ?_
      refine J_iconst (v := 0) (pc1 := 25) dX7_crash_24 (by decide) rfl ?_
      obtain ⟨r12, hc11, h⟩ := gBp_s h
      refine J_callV (As := [.int a1, .int 0]) (ad := ad) (f := 0) (i := 0) (st := [.int 2, .ref (ad 0 0)]) (st1 := [.int r12, .int 2, .ref (ad 0 0)]) (pc1 := 28) (kX7_of l D tc sa ad hI a1 0 μ9 r12 hc11) wcX7_of wlX7_38 eR0 rfl rfl rfl ⟨rfl, rfl, Nat.le_of_ble_eq_true rfl, Nat.le_of_ble_eq_true rfl⟩ ⟨Nat.zero_le _, Nat.zero_le _⟩ (Nat.le_of_ble_eq_true rfl) dX7_crash_25 rfl rfl ?_
      obtain ⟨x13, e14, h⟩ := gLet_s h
      have k15 : JR p l e ({ frames := 2, cells := 0, slots := 0, locals := 42 } : Room) s m args below meth c cX7_crash 2 RX7 D tc sa ad sz (some (.int r)) μ' μ9 36 [(0, .ref (ad 0 0)), (1, .int a1)] [.int x13, .int 2, .ref (ad 0 0)] := by
        obtain ⟨r18, μ19, hc17, h⟩ := gBd_s h
        refine J_callV (As := [.int 2, .int x13]) (ad := ad) (f := 0) (i := 0) (st := []) (st1 := [.int r18]) (pc1 := 39) (kX7_fails l D tc sa ad hI 2 x13 μ9 r18 μ19 hc17) wcX7_fails wlX7_55 eR0 rfl rfl rfl ⟨rfl, rfl, Nat.le_of_ble_eq_true rfl, Nat.le_of_ble_eq_true rfl⟩ ⟨Nat.zero_le _, Nat.zero_le _⟩ (Nat.le_of_ble_eq_true rfl) dX7_crash_36 rfl rfl ?_
        refine J_if_eq (tgt := 44) (pc1 := 42) dX7_crash_39 (by decide) (fun q20 => ?_) rfl (fun q20 => ?_)
        · rw [if_pos q20] at h
          refine J_aload_n (i := 0) (q := 0) (pc1 := 45) dX7_crash_44 rfl rfl rfl ?_
          refine J_iload_n (i := 1) (q := 1) (pc1 := 46) dX7_crash_45 rfl rfl rfl ?_
          refine J_iconst (v := 0) (pc1 := 47) dX7_crash_46 (by decide) rfl ?_
          refine J_iconst (v := 0) (pc1 := 48) dX7_crash_47 (by decide) rfl ?_
          obtain ⟨μ22, hc21, h⟩ := gBp_s h
          refine J_callV (As := [.int a1, .int 0, .int 0]) (ad := ad) (f := 0) (i := 0) (st := []) (st1 := []) (pc1 := 51) (kX7_set l D tc sa ad hI a1 0 0 μ19 μ22 hc21) wcX7_set wlX7_43 eR0 rfl rfl rfl ⟨rfl, rfl, Nat.le_of_ble_eq_true rfl, Nat.le_of_ble_eq_true rfl⟩ ⟨Nat.zero_le _, Nat.zero_le _⟩ (Nat.le_of_ble_eq_true rfl) dX7_crash_48 rfl rfl ?_
          refine J_aload_n (i := 0) (q := 0) (pc1 := 52) dX7_crash_51 rfl rfl rfl ?_
          refine J_iload_n (i := 1) (q := 1) (pc1 := 53) dX7_crash_52 rfl rfl rfl ?_
          refine J_iconst (v := 1) (pc1 := 54) dX7_crash_53 (by decide) rfl ?_
          refine J_iconst (v := 0) (pc1 := 55) dX7_crash_54 (by decide) rfl ?_
          obtain ⟨μ24, hc23, h⟩ := gBp_s h
          refine J_callV (As := [.int a1, .int 1, .int 0]) (ad := ad) (f := 0) (i := 0) (st := []) (st1 := []) (pc1 := 58) (kX7_set l D tc sa ad hI a1 1 0 μ22 μ24 hc23) wcX7_set wlX7_43 eR0 rfl rfl rfl ⟨rfl, rfl, Nat.le_of_ble_eq_true rfl, Nat.le_of_ble_eq_true rfl⟩ ⟨Nat.zero_le _, Nat.zero_le _⟩ (Nat.le_of_ble_eq_true rfl) dX7_crash_55 rfl rfl ?_
          refine J_aload_n (i := 0) (q := 0) (pc1 := 59) dX7_crash_58 rfl rfl rfl ?_
          refine J_iload_n (i := 1) (q := 1) (pc1 := 60) dX7_crash_59 rfl rfl rfl ?_
          refine J_iconst (v := 2) (pc1 := 61) dX7_crash_60 (by decide) rfl ?_
          obtain ⟨r26, hc25, h⟩ := gBp_s h
          refine J_callV (As := [.int a1, .int 2]) (ad := ad) (f := 0) (i := 0) (st := []) (st1 := [.int r26]) (pc1 := 64) (kX7_of l D tc sa ad hI a1 2 μ24 r26 hc25) wcX7_of wlX7_38 eR0 rfl rfl rfl ⟨rfl, rfl, Nat.le_of_ble_eq_true rfl, Nat.le_of_ble_eq_true rfl⟩ ⟨Nat.zero_le _, Nat.zero_le _⟩ (Nat.le_of_ble_eq_true rfl) dX7_crash_61 rfl rfl ?_
          cases h
          exact J_iret hr hlk dX7_crash_64
        · rw [if_neg q20] at h
          refine J_iconst (v := 0) (pc1 := 43) dX7_crash_42 (by decide) rfl ?_
          cases h
          exact J_iret hr hlk dX7_crash_43
      refine J_if_ne (tgt := 35) (pc1 := 31) dX7_crash_28 (by decide) (fun q16 => ?_) rfl (fun q16 => ?_)
      · rw [if_neg q16] at e14
        subst e14
        refine J_iconst (v := 0) (pc1 := 36) dX7_crash_35 (by decide) rfl ?_
        exact k15
      · rw [if_pos q16] at e14
        subst e14
        refine J_iconst (v := 1) (pc1 := 32) dX7_crash_31 (by decide) rfl ?_
        refine J_goto (tgt := 36) dX7_crash_32 (by decide) ?_
        exact k15
  refine J_if_ne (tgt := 13) (pc1 := 9) dX7_crash_6 (by decide) (fun q6 => ?_) rfl (fun q6 => ?_)
  · rw [if_neg q6] at e4
    subst e4
    refine J_iconst (v := 0) (pc1 := 14) dX7_crash_13 (by decide) rfl ?_
    exact k5
  · rw [if_pos q6] at e4
    subst e4
    refine J_iconst (v := 1) (pc1 := 10) dX7_crash_9 (by decide) rfl ?_
    refine J_goto (tgt := 14) dX7_crash_10 (by decide) ?_
    exact k5
def mX7_restart (a1 : Int32) (μ : gM) : Option (Int32 × gM) :=
  gBp (mX7_isNode a1 μ) fun r2 =>
  gLet (α := Int32) (if r2 = 0 then 1 else 0) fun x3 =>
  gBd (mX7_fails 1 x3 μ) fun r8 μ9 =>
  if r8 = 0 then
    gBp (mX7_of a1 0 μ9) fun r12 =>
    gLet (α := Int32) (if r12 = 1 then 1 else 0) fun x13 =>
    gBd (mX7_fails 2 x13 μ9) fun r18 μ19 =>
    if r18 = 0 then
      gBp (mX7_set a1 0 1 μ19) fun μ22 =>
      gBp (mX7_of a1 7 μ22) fun r24 =>
      gBp (mX7_set a1 4 r24 μ22) fun μ26 =>
      gBp (mX7_resetTimer a1 μ26) fun μ28 =>
      gBp (mX7_last a1 μ28) fun r30 =>
      some (r30, μ28)
    else
      some (0, μ19)
  else
    some (0, μ9)
set_option maxHeartbeats 4000000 in
set_option maxRecDepth 100000 in
theorem kX7_restart (l : Launch) (D : va_G) (tc : Nat → ClassId) (sa : Nat → Nat) (ad : Nat → Nat → Nat) (hI : gI gE_R ad) (a1 : Int32) (μ : gM) (r : Int32) (μ' : gM) (h : mX7_restart a1 μ = some (r, μ')) : gMet l yX7_restart cX7_restart 2 (some .int) ({ frames := 2, cells := 0, slots := 0, locals := 45 } : Room) D gE_R gkd_R tc ad grh_R sa [.ref (ad 0 0), .int a1] μ (some (.int r)) μ' := by
  refine gMet_of hI ⟨by decide +kernel, Nat.le_of_ble_eq_true rfl⟩ (fun p e s m args below meth c sz hr hlk => ?_)
  unfold mX7_restart at h
  show JR p l e ({ frames := 2, cells := 0, slots := 0, locals := 45 } : Room) s m args below meth c cX7_restart 2 RX7 D tc sa ad sz (some (.int r)) μ' μ 0 [(0, .ref (ad 0 0)), (1, .int a1)] []
  refine J_aload_n (i := 0) (q := 0) (pc1 := 1) dX7_restart_0 rfl rfl rfl ?_
  refine J_iconst (v := 1) (pc1 := 2) dX7_restart_1 (by decide) rfl ?_
  refine J_iload_n (i := 1) (q := 1) (pc1 := 3) dX7_restart_2 rfl rfl rfl ?_
  obtain ⟨r2, hc1, h⟩ := gBp_s h
  refine J_callS (As := [.int a1]) (st := [.int 1, .ref (ad 0 0)]) (st1 := [.int r2, .int 1, .ref (ad 0 0)]) (pc1 := 6) (kX7_isNode l D tc sa ad hI a1 μ r2 hc1) wcX7_isNode wlX7_185 rfl ⟨rfl, rfl, Nat.le_of_ble_eq_true rfl, Nat.le_of_ble_eq_true rfl⟩ ⟨Nat.zero_le _, Nat.zero_le _⟩ (Nat.le_of_ble_eq_true rfl) dX7_restart_3 rfl rfl ?_
  obtain ⟨x3, e4, h⟩ := gLet_s h
  have k5 : JR p l e ({ frames := 2, cells := 0, slots := 0, locals := 45 } : Room) s m args below meth c cX7_restart 2 RX7 D tc sa ad sz (some (.int r)) μ' μ 14 [(0, .ref (ad 0 0)), (1, .int a1)] [.int x3, .int 1, .ref (ad 0 0)] := by
    obtain ⟨r8, μ9, hc7, h⟩ := gBd_s h
    refine J_callV (As := [.int 1, .int x3]) (ad := ad) (f := 0) (i := 0) (st := []) (st1 := [.int r8]) (pc1 := 17) (kX7_fails l D tc sa ad hI 1 x3 μ r8 μ9 hc7) wcX7_fails wlX7_55 eR0 rfl rfl rfl ⟨rfl, rfl, Nat.le_of_ble_eq_true rfl, Nat.le_of_ble_eq_true rfl⟩ ⟨Nat.zero_le _, Nat.zero_le _⟩ (Nat.le_of_ble_eq_true rfl) dX7_restart_14 rfl rfl ?_
    refine J_if_ne (tgt := 43) (pc1 := 20) dX7_restart_17 (by decide) (fun q10 => ?_) rfl (fun q10 => ?_)
    · rw [if_neg q10] at h
      refine J_iconst (v := 0) (pc1 := 44) dX7_restart_43 (by decide) rfl ?_
      cases h
      exact J_iret hr hlk dX7_restart_44
    · rw [if_pos q10] at h
      refine J_aload_n (i := 0) (q := 0) (pc1 := 21) dX7_restart_20 rfl rfl rfl ?_
      refine J_iconst (v := 2) (pc1 := 22) dX7_restart_21 (by decide) rfl ?_
      refine J_aload_n (i := 0) (q := 0) (pc1 := 23) dX7_restart_22 rfl rfl rfl ?_
      refine J_iload_n (i := 1) (q := 1) (pc1 := 24) dX7_restart_23 rfl rfl rfl ?_
      refine J_iconst (v := 0) (pc1 := 25) dX7_restart_24 (by decide) rfl ?_
      obtain ⟨r12, hc11, h⟩ := gBp_s h
      refine J_callV (As := [.int a1, .int 0]) (ad := ad) (f := 0) (i := 0) (st := [.int 2, .ref (ad 0 0)]) (st1 := [.int r12, .int 2, .ref (ad 0 0)]) (pc1 := 28) (kX7_of l D tc sa ad hI a1 0 μ9 r12 hc11) wcX7_of wlX7_38 eR0 rfl rfl rfl ⟨rfl, rfl, Nat.le_of_ble_eq_true rfl, Nat.le_of_ble_eq_true rfl⟩ ⟨Nat.zero_le _, Nat.zero_le _⟩ (Nat.le_of_ble_eq_true rfl) dX7_restart_25 rfl rfl ?_
      refine J_iconst (v := 1) (pc1 := 29) dX7_restart_28 (by decide) rfl ?_
      obtain ⟨x13, e14, h⟩ := gLet_s h
      have k15 : JR p l e ({ frames := 2, cells := 0, slots := 0, locals := 45 } : Room) s m args below meth c cX7_restart 2 RX7 D tc sa ad sz (some (.int r)) μ' μ9 37 [(0, .ref (ad 0 0)), (1, .int a1)] [.int x13, .int 2, .ref (ad 0 0)] := by
        obtain ⟨r18, μ19, hc17, h⟩ := gBd_s h
        refine J_callV (As := [.int 2, .int x13]) (ad := ad) (f := 0) (i := 0) (st := []) (st1 := [.int r18]) (pc1 := 40) (kX7_fails l D tc sa ad hI 2 x13 μ9 r18 μ19 hc17) wcX7_fails wlX7_55 eR0 rfl rfl rfl ⟨rfl, rfl, Nat.le_of_ble_eq_true rfl, Nat.le_of_ble_eq_true rfl⟩ ⟨Nat.zero_le _, Nat.zero_le _⟩ (Nat.le_of_ble_eq_true rfl) dX7_restart_37 rfl rfl ?_
        refine J_if_eq (tgt := 45) (pc1 := 43) dX7_restart_40 (by decide) (fun q20 => ?_) rfl (fun q20 => ?_)
        · rw [if_pos q20] at h
          refine J_aload_n (i := 0) (q := 0) (pc1 := 46) dX7_restart_45 rfl rfl rfl ?_
          refine J_iload_n (i := 1) (q := 1) (pc1 := 47) dX7_restart_46 rfl rfl rfl ?_
          refine J_iconst (v := 0) (pc1 := 48) dX7_restart_47 (by decide) rfl ?_
          refine J_iconst (v := 1) (pc1 := 49) dX7_restart_48 (by decide) rfl ?_
          obtain ⟨μ22, hc21, h⟩ := gBp_s h
          refine J_callV (As := [.int a1, .int 0, .int 1]) (ad := ad) (f := 0) (i := 0) (st := []) (st1 := []) (pc1 := 52) (kX7_set l D tc sa ad hI a1 0 1 μ19 μ22 hc21) wcX7_set wlX7_43 eR0 rfl rfl rfl ⟨rfl, rfl, Nat.le_of_ble_eq_true rfl, Nat.le_of_ble_eq_true rfl⟩ ⟨Nat.zero_le _, Nat.zero_le _⟩ (Nat.le_of_ble_eq_true rfl) dX7_restart_49 rfl rfl ?_
          refine J_aload_n (i := 0) (q := 0) (pc1 := 53) dX7_restart_52 rfl rfl rfl ?_
          refine J_iload_n (i := 1) (q := 1) (pc1 := 54) dX7_restart_53 rfl rfl rfl ?_
          refine J_iconst (v := 4) (pc1 := 55) dX7_restart_54 (by decide) rfl ?_
          refine J_aload_n (i := 0) (q := 0) (pc1 := 56) dX7_restart_55 rfl rfl rfl ?_
          refine J_iload_n (i := 1) (q := 1) (pc1 := 57) dX7_restart_56 rfl rfl rfl ?_
          refine J_bipush (v := 7) (pc1 := 59) dX7_restart_57 (by decide) rfl ?_
          obtain ⟨r24, hc23, h⟩ := gBp_s h
          refine J_callV (As := [.int a1, .int 7]) (ad := ad) (f := 0) (i := 0) (st := [.int 4, .int a1, .ref (ad 0 0)]) (st1 := [.int r24, .int 4, .int a1, .ref (ad 0 0)]) (pc1 := 62) (kX7_of l D tc sa ad hI a1 7 μ22 r24 hc23) wcX7_of wlX7_38 eR0 rfl rfl rfl ⟨rfl, rfl, Nat.le_of_ble_eq_true rfl, Nat.le_of_ble_eq_true rfl⟩ ⟨Nat.zero_le _, Nat.zero_le _⟩ (Nat.le_of_ble_eq_true rfl) dX7_restart_59 rfl rfl ?_
          obtain ⟨μ26, hc25, h⟩ := gBp_s h
          refine J_callV (As := [.int a1, .int 4, .int r24]) (ad := ad) (f := 0) (i := 0) (st := []) (st1 := []) (pc1 := 65) (kX7_set l D tc sa ad hI a1 4 r24 μ22 μ26 hc25) wcX7_set wlX7_43 eR0 rfl rfl rfl ⟨rfl, rfl, Nat.le_of_ble_eq_true rfl, Nat.le_of_ble_eq_true rfl⟩ ⟨Nat.zero_le _, Nat.zero_le _⟩ (Nat.le_of_ble_eq_true rfl) dX7_restart_62 rfl rfl ?_
          refine J_aload_n (i := 0) (q := 0) (pc1 := 66) dX7_restart_65 rfl rfl rfl ?_
          refine J_iload_n (i := 1) (q := 1) (pc1 := 67) dX7_restart_66 rfl rfl rfl ?_
          obtain ⟨μ28, hc27, h⟩ := gBp_s h
          refine J_callV (As := [.int a1]) (ad := ad) (f := 0) (i := 0) (st := []) (st1 := []) (pc1 := 70) (kX7_resetTimer l D tc sa ad hI a1 μ26 μ28 hc27) wcX7_resetTimer wlX7_47 eR0 rfl rfl rfl ⟨rfl, rfl, Nat.le_of_ble_eq_true rfl, Nat.le_of_ble_eq_true rfl⟩ ⟨Nat.zero_le _, Nat.zero_le _⟩ (Nat.le_of_ble_eq_true rfl) dX7_restart_67 rfl rfl ?_
          refine J_aload_n (i := 0) (q := 0) (pc1 := 71) dX7_restart_70 rfl rfl rfl ?_
          refine J_iload_n (i := 1) (q := 1) (pc1 := 72) dX7_restart_71 rfl rfl rfl ?_
          obtain ⟨r30, hc29, h⟩ := gBp_s h
          refine J_callV (As := [.int a1]) (ad := ad) (f := 0) (i := 0) (st := []) (st1 := [.int r30]) (pc1 := 75) (kX7_last l D tc sa ad hI a1 μ28 r30 hc29) wcX7_last wlX7_67 eR0 rfl rfl rfl ⟨rfl, rfl, Nat.le_of_ble_eq_true rfl, Nat.le_of_ble_eq_true rfl⟩ ⟨Nat.zero_le _, Nat.zero_le _⟩ (Nat.le_of_ble_eq_true rfl) dX7_restart_72 rfl rfl ?_
          cases h
          exact J_iret hr hlk dX7_restart_75
        · rw [if_neg q20] at h
          refine J_iconst (v := 0) (pc1 := 44) dX7_restart_43 (by decide) rfl ?_
          cases h
          exact J_iret hr hlk dX7_restart_44
      refine J_icmp_ne (tgt := 36) (pc1 := 32) dX7_restart_29 (by decide) (fun q16 => ?_) rfl (fun q16 => ?_)
      · rw [if_neg q16] at e14
        subst e14
        refine J_iconst (v := 0) (pc1 := 37) dX7_restart_36 (by decide) rfl ?_
        exact k15
      · rw [if_pos q16] at e14
        subst e14
        refine J_iconst (v := 1) (pc1 := 33) dX7_restart_32 (by decide) rfl ?_
        refine J_goto (tgt := 37) dX7_restart_33 (by decide) ?_
        exact k15
  refine J_if_ne (tgt := 13) (pc1 := 9) dX7_restart_6 (by decide) (fun q6 => ?_) rfl (fun q6 => ?_)
  · rw [if_neg q6] at e4
    subst e4
    refine J_iconst (v := 0) (pc1 := 14) dX7_restart_13 (by decide) rfl ?_
    exact k5
  · rw [if_pos q6] at e4
    subst e4
    refine J_iconst (v := 1) (pc1 := 10) dX7_restart_9 (by decide) rfl ?_
    refine J_goto (tgt := 14) dX7_restart_10 (by decide) ?_
    exact k5
def mX7_submit (a1 : Int32) (a2 : Int32) (μ : gM) : Option (Int32 × gM) :=
  gBp (mX7_isNode a1 μ) fun r2 =>
  gLet (α := Int32) (if r2 = 0 then 1 else 0) fun x3 =>
  gBd (mX7_fails 1 x3 μ) fun r8 μ9 =>
  if r8 = 0 then
    gBp (mX7_of a1 1 μ9) fun r12 =>
    gLet (α := Int32) (if r12 = 2 then 0 else 1) fun x13 =>
    gBd (mX7_fails 2 x13 μ9) fun r18 μ19 =>
    if r18 = 0 then
      gBp (mX7_of a1 12 μ19) fun r22 =>
      gLet (α := Int32) (if r22 = 24 then 1 else 0) fun x23 =>
      gBd (mX7_fails 3 x23 μ19) fun r28 μ29 =>
      if r28 = 0 then
        gBp (mX7_last a1 μ29) fun r32 =>
        gLet (α := Int32) (r32 + 1) fun x33 =>
        gBp (mX7_append a1 0 a2 μ29) fun μ38 =>
        some (x33, μ38)
      else
        some (0, μ29)
    else
      some (0, μ19)
  else
    some (0, μ9)
set_option maxHeartbeats 4000000 in
set_option maxRecDepth 100000 in
theorem kX7_submit (l : Launch) (D : va_G) (tc : Nat → ClassId) (sa : Nat → Nat) (ad : Nat → Nat → Nat) (hI : gI gE_R ad) (a1 : Int32) (a2 : Int32) (μ : gM) (r : Int32) (μ' : gM) (h : mX7_submit a1 a2 μ = some (r, μ')) : gMet l yX7_submit cX7_submit 4 (some .int) ({ frames := 7, cells := 0, slots := 0, locals := 160 } : Room) D gE_R gkd_R tc ad grh_R sa [.ref (ad 0 0), .int a1, .int a2] μ (some (.int r)) μ' := by
  refine gMet_of hI ⟨by decide +kernel, Nat.le_of_ble_eq_true rfl⟩ (fun p e s m args below meth c sz hr hlk => ?_)
  unfold mX7_submit at h
  show JR p l e ({ frames := 7, cells := 0, slots := 0, locals := 160 } : Room) s m args below meth c cX7_submit 4 RX7 D tc sa ad sz (some (.int r)) μ' μ 0 [(0, .ref (ad 0 0)), (1, .int a1), (2, .int a2)] []
  refine J_aload_n (i := 0) (q := 0) (pc1 := 1) dX7_submit_0 rfl rfl rfl ?_
  refine J_iconst (v := 1) (pc1 := 2) dX7_submit_1 (by decide) rfl ?_
  refine J_iload_n (i := 1) (q := 1) (pc1 := 3) dX7_submit_2 rfl rfl rfl ?_
  obtain ⟨r2, hc1, h⟩ := gBp_s h
  refine J_callS (As := [.int a1]) (st := [.int 1, .ref (ad 0 0)]) (st1 := [.int r2, .int 1, .ref (ad 0 0)]) (pc1 := 6) (kX7_isNode l D tc sa ad hI a1 μ r2 hc1) wcX7_isNode wlX7_185 rfl ⟨rfl, rfl, Nat.le_of_ble_eq_true rfl, Nat.le_of_ble_eq_true rfl⟩ ⟨Nat.zero_le _, Nat.zero_le _⟩ (Nat.le_of_ble_eq_true rfl) dX7_submit_3 rfl rfl ?_
  obtain ⟨x3, e4, h⟩ := gLet_s h
  have k5 : JR p l e ({ frames := 7, cells := 0, slots := 0, locals := 160 } : Room) s m args below meth c cX7_submit 4 RX7 D tc sa ad sz (some (.int r)) μ' μ 14 [(0, .ref (ad 0 0)), (1, .int a1), (2, .int a2)] [.int x3, .int 1, .ref (ad 0 0)] := by
    obtain ⟨r8, μ9, hc7, h⟩ := gBd_s h
    refine J_callV (As := [.int 1, .int x3]) (ad := ad) (f := 0) (i := 0) (st := []) (st1 := [.int r8]) (pc1 := 17) (kX7_fails l D tc sa ad hI 1 x3 μ r8 μ9 hc7) wcX7_fails wlX7_55 eR0 rfl rfl rfl ⟨rfl, rfl, Nat.le_of_ble_eq_true rfl, Nat.le_of_ble_eq_true rfl⟩ ⟨Nat.zero_le _, Nat.zero_le _⟩ (Nat.le_of_ble_eq_true rfl) dX7_submit_14 rfl rfl ?_
    refine J_if_ne (tgt := 68) (pc1 := 20) dX7_submit_17 (by decide) (fun q10 => ?_) rfl (fun q10 => ?_)
    · rw [if_neg q10] at h
      refine J_iconst (v := 0) (pc1 := 69) dX7_submit_68 (by decide) rfl ?_
      cases h
      exact J_iret hr hlk dX7_submit_69
    · rw [if_pos q10] at h
      refine J_aload_n (i := 0) (q := 0) (pc1 := 21) dX7_submit_20 rfl rfl rfl ?_
      refine J_iconst (v := 2) (pc1 := 22) dX7_submit_21 (by decide) rfl ?_
      refine J_aload_n (i := 0) (q := 0) (pc1 := 23) dX7_submit_22 rfl rfl rfl ?_
      refine J_iload_n (i := 1) (q := 1) (pc1 := 24) dX7_submit_23 rfl rfl rfl ?_
      refine J_iconst (v := 1) (pc1 := 25) dX7_submit_24 (by decide) rfl ?_
      obtain ⟨r12, hc11, h⟩ := gBp_s h
      refine J_callV (As := [.int a1, .int 1]) (ad := ad) (f := 0) (i := 0) (st := [.int 2, .ref (ad 0 0)]) (st1 := [.int r12, .int 2, .ref (ad 0 0)]) (pc1 := 28) (kX7_of l D tc sa ad hI a1 1 μ9 r12 hc11) wcX7_of wlX7_38 eR0 rfl rfl rfl ⟨rfl, rfl, Nat.le_of_ble_eq_true rfl, Nat.le_of_ble_eq_true rfl⟩ ⟨Nat.zero_le _, Nat.zero_le _⟩ (Nat.le_of_ble_eq_true rfl) dX7_submit_25 rfl rfl ?_
      refine J_iconst (v := 2) (pc1 := 29) dX7_submit_28 (by decide) rfl ?_
      obtain ⟨x13, e14, h⟩ := gLet_s h
      have k15 : JR p l e ({ frames := 7, cells := 0, slots := 0, locals := 160 } : Room) s m args below meth c cX7_submit 4 RX7 D tc sa ad sz (some (.int r)) μ' μ9 37 [(0, .ref (ad 0 0)), (1, .int a1), (2, .int a2)] [.int x13, .int 2, .ref (ad 0 0)] := by
        obtain ⟨r18, μ19, hc17, h⟩ := gBd_s h
        refine J_callV (As := [.int 2, .int x13]) (ad := ad) (f := 0) (i := 0) (st := []) (st1 := [.int r18]) (pc1 := 40) (kX7_fails l D tc sa ad hI 2 x13 μ9 r18 μ19 hc17) wcX7_fails wlX7_55 eR0 rfl rfl rfl ⟨rfl, rfl, Nat.le_of_ble_eq_true rfl, Nat.le_of_ble_eq_true rfl⟩ ⟨Nat.zero_le _, Nat.zero_le _⟩ (Nat.le_of_ble_eq_true rfl) dX7_submit_37 rfl rfl ?_
        refine J_if_ne (tgt := 68) (pc1 := 43) dX7_submit_40 (by decide) (fun q20 => ?_) rfl (fun q20 => ?_)
        · rw [if_neg q20] at h
          refine J_iconst (v := 0) (pc1 := 69) dX7_submit_68 (by decide) rfl ?_
          cases h
          exact J_iret hr hlk dX7_submit_69
        · rw [if_pos q20] at h
          refine J_aload_n (i := 0) (q := 0) (pc1 := 44) dX7_submit_43 rfl rfl rfl ?_
          refine J_iconst (v := 3) (pc1 := 45) dX7_submit_44 (by decide) rfl ?_
          refine J_aload_n (i := 0) (q := 0) (pc1 := 46) dX7_submit_45 rfl rfl rfl ?_
          refine J_iload_n (i := 1) (q := 1) (pc1 := 47) dX7_submit_46 rfl rfl rfl ?_
          refine J_bipush (v := 12) (pc1 := 49) dX7_submit_47 (by decide) rfl ?_
          obtain ⟨r22, hc21, h⟩ := gBp_s h
          refine J_callV (As := [.int a1, .int 12]) (ad := ad) (f := 0) (i := 0) (st := [.int 3, .ref (ad 0 0)]) (st1 := [.int r22, .int 3, .ref (ad 0 0)]) (pc1 := 52) (kX7_of l D tc sa ad hI a1 12 μ19 r22 hc21) wcX7_of wlX7_38 eR0 rfl rfl rfl ⟨rfl, rfl, Nat.le_of_ble_eq_true rfl, Nat.le_of_ble_eq_true rfl⟩ ⟨Nat.zero_le _, Nat.zero_le _⟩ (Nat.le_of_ble_eq_true rfl) dX7_submit_49 rfl rfl ?_
          refine J_bipush (v := 24) (pc1 := 54) dX7_submit_52 (by decide) rfl ?_
          obtain ⟨x23, e24, h⟩ := gLet_s h
          have k25 : JR p l e ({ frames := 7, cells := 0, slots := 0, locals := 160 } : Room) s m args below meth c cX7_submit 4 RX7 D tc sa ad sz (some (.int r)) μ' μ19 62 [(0, .ref (ad 0 0)), (1, .int a1), (2, .int a2)] [.int x23, .int 3, .ref (ad 0 0)] := by
            obtain ⟨r28, μ29, hc27, h⟩ := gBd_s h
            refine J_callV (As := [.int 3, .int x23]) (ad := ad) (f := 0) (i := 0) (st := []) (st1 := [.int r28]) (pc1 := 65) (kX7_fails l D tc sa ad hI 3 x23 μ19 r28 μ29 hc27) wcX7_fails wlX7_55 eR0 rfl rfl rfl ⟨rfl, rfl, Nat.le_of_ble_eq_true rfl, Nat.le_of_ble_eq_true rfl⟩ ⟨Nat.zero_le _, Nat.zero_le _⟩ (Nat.le_of_ble_eq_true rfl) dX7_submit_62 rfl rfl ?_
            refine J_if_eq (tgt := 70) (pc1 := 68) dX7_submit_65 (by decide) (fun q30 => ?_) rfl (fun q30 => ?_)
            · rw [if_pos q30] at h
              refine J_aload_n (i := 0) (q := 0) (pc1 := 71) dX7_submit_70 rfl rfl rfl ?_
              refine J_iload_n (i := 1) (q := 1) (pc1 := 72) dX7_submit_71 rfl rfl rfl ?_
              obtain ⟨r32, hc31, h⟩ := gBp_s h
              refine J_callV (As := [.int a1]) (ad := ad) (f := 0) (i := 0) (st := []) (st1 := [.int r32]) (pc1 := 75) (kX7_last l D tc sa ad hI a1 μ29 r32 hc31) wcX7_last wlX7_67 eR0 rfl rfl rfl ⟨rfl, rfl, Nat.le_of_ble_eq_true rfl, Nat.le_of_ble_eq_true rfl⟩ ⟨Nat.zero_le _, Nat.zero_le _⟩ (Nat.le_of_ble_eq_true rfl) dX7_submit_72 rfl rfl ?_
              refine J_iconst (v := 1) (pc1 := 76) dX7_submit_75 (by decide) rfl ?_
              refine J_iadd (pc1 := 77) dX7_submit_76 rfl ?_
              obtain ⟨x33, e35, h⟩ := gLet_s h
              refine J_top (fun y34 e36 => ?_)
              have e36x : x33 = y34 := (e36.trans e35.symm).symm
              subst e36x
              refine J_istore_n (i := 3) (lv1 := [(3, .int x33), (0, .ref (ad 0 0)), (1, .int a1), (2, .int a2)]) (pc1 := 78) dX7_submit_77 rfl (by decide) rfl rfl ?_
              refine J_aload_n (i := 0) (q := 1) (pc1 := 79) dX7_submit_78 rfl rfl rfl ?_
              refine J_iload_n (i := 1) (q := 2) (pc1 := 80) dX7_submit_79 rfl rfl rfl ?_
              refine J_iconst (v := 0) (pc1 := 81) dX7_submit_80 (by decide) rfl ?_
              refine J_iload_n (i := 2) (q := 3) (pc1 := 82) dX7_submit_81 rfl rfl rfl ?_
              obtain ⟨μ38, hc37, h⟩ := gBp_s h
              refine J_callV (As := [.int a1, .int 0, .int a2]) (ad := ad) (f := 0) (i := 0) (st := []) (st1 := []) (pc1 := 85) (kX7_append l D tc sa ad hI a1 0 a2 μ29 μ38 hc37) wcX7_append wlX7_127 eR0 rfl rfl rfl ⟨rfl, rfl, Nat.le_of_ble_eq_true rfl, Nat.le_of_ble_eq_true rfl⟩ ⟨Nat.zero_le _, Nat.zero_le _⟩ (Nat.le_of_ble_eq_true rfl) dX7_submit_82 rfl rfl ?_
              refine J_iload_n (i := 3) (q := 0) (pc1 := 86) dX7_submit_85 rfl rfl rfl ?_
              cases h
              exact J_iret hr hlk dX7_submit_86
            · rw [if_neg q30] at h
              refine J_iconst (v := 0) (pc1 := 69) dX7_submit_68 (by decide) rfl ?_
              cases h
              exact J_iret hr hlk dX7_submit_69
          refine J_icmp_ne (tgt := 61) (pc1 := 57) dX7_submit_54 (by decide) (fun q26 => ?_) rfl (fun q26 => ?_)
          · rw [if_neg q26] at e24
            subst e24
            refine J_iconst (v := 0) (pc1 := 62) dX7_submit_61 (by decide) rfl ?_
            exact k25
          · rw [if_pos q26] at e24
            subst e24
            refine J_iconst (v := 1) (pc1 := 58) dX7_submit_57 (by decide) rfl ?_
            refine J_goto (tgt := 62) dX7_submit_58 (by decide) ?_
            exact k25
      refine J_icmp_eq (tgt := 36) (pc1 := 32) dX7_submit_29 (by decide) (fun q16 => ?_) rfl (fun q16 => ?_)
      · rw [if_pos q16] at e14
        subst e14
        refine J_iconst (v := 0) (pc1 := 37) dX7_submit_36 (by decide) rfl ?_
        exact k15
      · rw [if_neg q16] at e14
        subst e14
        refine J_iconst (v := 1) (pc1 := 33) dX7_submit_32 (by decide) rfl ?_
        refine J_goto (tgt := 37) dX7_submit_33 (by decide) ?_
        exact k15
  refine J_if_ne (tgt := 13) (pc1 := 9) dX7_submit_6 (by decide) (fun q6 => ?_) rfl (fun q6 => ?_)
  · rw [if_neg q6] at e4
    subst e4
    refine J_iconst (v := 0) (pc1 := 14) dX7_submit_13 (by decide) rfl ?_
    exact k5
  · rw [if_pos q6] at e4
    subst e4
    refine J_iconst (v := 1) (pc1 := 10) dX7_submit_9 (by decide) rfl ?_
    refine J_goto (tgt := 14) dX7_submit_10 (by decide) ?_
    exact k5
def mX7_canChange (a1 : Int32) (μ : gM) : Option Int32 :=
  gBp (mX7_configuration a1 μ) fun r2 =>
  gBp (mX7_of a1 1 μ) fun r4 =>
  if r4 = 2 then
    gBp (mX7_oldOf a1 r2 μ) fun r7 =>
    if r7 = 0 then
      gBp (mX7_of a1 4 μ) fun r10 =>
      if r10 < r2 then
        some 0
      else
        some 1
    else
      some 0
  else
    some 0
set_option maxHeartbeats 4000000 in
set_option maxRecDepth 100000 in
theorem kX7_canChange (l : Launch) (D : va_G) (tc : Nat → ClassId) (sa : Nat → Nat) (ad : Nat → Nat → Nat) (hI : gI gE_R ad) (a1 : Int32) (μ : gM) (r : Int32) (h : mX7_canChange a1 μ = some r) : gMet l yX7_canChange cX7_canChange 3 (some .boolean) ({ frames := 4, cells := 0, slots := 0, locals := 91 } : Room) D gE_R gkd_R tc ad grh_R sa [.ref (ad 0 0), .int a1] μ (some (.int r)) μ := by
  refine gMet_of hI ⟨by decide +kernel, Nat.le_of_ble_eq_true rfl⟩ (fun p e s m args below meth c sz hr hlk => ?_)
  unfold mX7_canChange at h
  show JR p l e ({ frames := 4, cells := 0, slots := 0, locals := 91 } : Room) s m args below meth c cX7_canChange 3 RX7 D tc sa ad sz (some (.int r)) μ μ 0 [(0, .ref (ad 0 0)), (1, .int a1)] []
  refine J_aload_n (i := 0) (q := 0) (pc1 := 1) dX7_canChange_0 rfl rfl rfl ?_
  refine J_iload_n (i := 1) (q := 1) (pc1 := 2) dX7_canChange_1 rfl rfl rfl ?_
  obtain ⟨r2, hc1, h⟩ := gBp_s h
  refine J_callV (As := [.int a1]) (ad := ad) (f := 0) (i := 0) (st := []) (st1 := [.int r2]) (pc1 := 5) (kX7_configuration l D tc sa ad hI a1 μ r2 hc1) wcX7_configuration wlX7_73 eR0 rfl rfl rfl ⟨rfl, rfl, Nat.le_of_ble_eq_true rfl, Nat.le_of_ble_eq_true rfl⟩ ⟨Nat.zero_le _, Nat.zero_le _⟩ (Nat.le_of_ble_eq_true rfl) dX7_canChange_2 rfl rfl ?_
  refine J_istore_n (i := 2) (lv1 := [(2, .int r2), (0, .ref (ad 0 0)), (1, .int a1)]) (pc1 := 6) dX7_canChange_5 rfl (by decide) rfl rfl ?_
  refine J_aload_n (i := 0) (q := 1) (pc1 := 7) dX7_canChange_6 rfl rfl rfl ?_
  refine J_iload_n (i := 1) (q := 2) (pc1 := 8) dX7_canChange_7 rfl rfl rfl ?_
  refine J_iconst (v := 1) (pc1 := 9) dX7_canChange_8 (by decide) rfl ?_
  obtain ⟨r4, hc3, h⟩ := gBp_s h
  refine J_callV (As := [.int a1, .int 1]) (ad := ad) (f := 0) (i := 0) (st := []) (st1 := [.int r4]) (pc1 := 12) (kX7_of l D tc sa ad hI a1 1 μ r4 hc3) wcX7_of wlX7_38 eR0 rfl rfl rfl ⟨rfl, rfl, Nat.le_of_ble_eq_true rfl, Nat.le_of_ble_eq_true rfl⟩ ⟨Nat.zero_le _, Nat.zero_le _⟩ (Nat.le_of_ble_eq_true rfl) dX7_canChange_9 rfl rfl ?_
  refine J_iconst (v := 2) (pc1 := 13) dX7_canChange_12 (by decide) rfl ?_
  refine J_icmp_ne (tgt := 39) (pc1 := 16) dX7_canChange_13 (by decide) (fun q5 => ?_) rfl (fun q5 => ?_)
  · rw [if_neg q5] at h
    refine J_iconst (v := 0) (pc1 := 40) dX7_canChange_39 (by decide) rfl ?_
    cases h
    exact J_zret (by decide) hr hlk dX7_canChange_40
  · rw [if_pos q5] at h
    refine J_aload_n (i := 0) (q := 1) (pc1 := 17) dX7_canChange_16 rfl rfl rfl ?_
    refine J_iload_n (i := 1) (q := 2) (pc1 := 18) dX7_canChange_17 rfl rfl rfl ?_
    refine J_iload_n (i := 2) (q := 0) (pc1 := 19) dX7_canChange_18 rfl rfl rfl ?_
    obtain ⟨r7, hc6, h⟩ := gBp_s h
    refine J_callV (As := [.int a1, .int r2]) (ad := ad) (f := 0) (i := 0) (st := []) (st1 := [.int r7]) (pc1 := 22) (kX7_oldOf l D tc sa ad hI a1 r2 μ r7 hc6) wcX7_oldOf wlX7_76 eR0 rfl rfl rfl ⟨rfl, rfl, Nat.le_of_ble_eq_true rfl, Nat.le_of_ble_eq_true rfl⟩ ⟨Nat.zero_le _, Nat.zero_le _⟩ (Nat.le_of_ble_eq_true rfl) dX7_canChange_19 rfl rfl ?_
    refine J_if_ne (tgt := 39) (pc1 := 25) dX7_canChange_22 (by decide) (fun q8 => ?_) rfl (fun q8 => ?_)
    · rw [if_neg q8] at h
      refine J_iconst (v := 0) (pc1 := 40) dX7_canChange_39 (by decide) rfl ?_
      cases h
      exact J_zret (by decide) hr hlk dX7_canChange_40
    · rw [if_pos q8] at h
      refine J_iload_n (i := 2) (q := 0) (pc1 := 26) dX7_canChange_25 rfl rfl rfl ?_
      refine J_aload_n (i := 0) (q := 1) (pc1 := 27) dX7_canChange_26 rfl rfl rfl ?_
      refine J_iload_n (i := 1) (q := 2) (pc1 := 28) dX7_canChange_27 rfl rfl rfl ?_
      refine J_iconst (v := 4) (pc1 := 29) dX7_canChange_28 (by decide) rfl ?_
      obtain ⟨r10, hc9, h⟩ := gBp_s h
      refine J_callV (As := [.int a1, .int 4]) (ad := ad) (f := 0) (i := 0) (st := [.int r2]) (st1 := [.int r10, .int r2]) (pc1 := 32) (kX7_of l D tc sa ad hI a1 4 μ r10 hc9) wcX7_of wlX7_38 eR0 rfl rfl rfl ⟨rfl, rfl, Nat.le_of_ble_eq_true rfl, Nat.le_of_ble_eq_true rfl⟩ ⟨Nat.zero_le _, Nat.zero_le _⟩ (Nat.le_of_ble_eq_true rfl) dX7_canChange_29 rfl rfl ?_
      refine J_icmp_gt (tgt := 39) (pc1 := 35) dX7_canChange_32 (by decide) (fun q11 => ?_) rfl (fun q11 => ?_)
      · rw [if_pos q11] at h
        refine J_iconst (v := 0) (pc1 := 40) dX7_canChange_39 (by decide) rfl ?_
        cases h
        exact J_zret (by decide) hr hlk dX7_canChange_40
      · rw [if_neg q11] at h
        refine J_iconst (v := 1) (pc1 := 36) dX7_canChange_35 (by decide) rfl ?_
        refine J_goto (tgt := 40) dX7_canChange_36 (by decide) ?_
        cases h
        exact J_zret (by decide) hr hlk dX7_canChange_40
def mX7_reconfigure (a1 : Int32) (a2 : Int32) (μ : gM) : Option (Int32 × gM) :=
  gBp (mX7_isNode a1 μ) fun r2 =>
  gLet (α := Int32) (if r2 = 0 then 1 else 0) fun x3 =>
  gBd (mX7_fails 1 x3 μ) fun r8 μ9 =>
  if r8 = 0 then
    gBp (mX7_isGroup a2 μ9) fun r12 =>
    gLet (α := Int32) (if r12 = 0 then 1 else 0) fun x13 =>
    gBd (mX7_fails 2 x13 μ9) fun r18 μ19 =>
    if r18 = 0 then
      gBp (mX7_canChange a1 μ19) fun r22 =>
      gLet (α := Int32) (if r22 = 0 then 1 else 0) fun x23 =>
      gBd (mX7_fails 3 x23 μ19) fun r28 μ29 =>
      if r28 = 0 then
        gBp (mX7_of a1 12 μ29) fun r32 =>
        gLet (α := Int32) (if r32 = 24 then 1 else 0) fun x33 =>
        gBd (mX7_fails 4 x33 μ29) fun r38 μ39 =>
        if r38 = 0 then
          gBp (mX7_last a1 μ39) fun r42 =>
          gLet (α := Int32) (r42 + 1) fun x43 =>
          gBp (mX7_configuration a1 μ39) fun r48 =>
          gBp (mX7_newOf a1 r48 μ39) fun r50 =>
          gBp (mX7_append a1 1 ((32 * r50) + a2) μ39) fun μ52 =>
          some (x43, μ52)
        else
          some (0, μ39)
      else
        some (0, μ29)
    else
      some (0, μ19)
  else
    some (0, μ9)
set_option maxHeartbeats 4000000 in
set_option maxRecDepth 100000 in
theorem kX7_reconfigure (l : Launch) (D : va_G) (tc : Nat → ClassId) (sa : Nat → Nat) (ad : Nat → Nat → Nat) (hI : gI gE_R ad) (a1 : Int32) (a2 : Int32) (μ : gM) (r : Int32) (μ' : gM) (h : mX7_reconfigure a1 a2 μ = some (r, μ')) : gMet l yX7_reconfigure cX7_reconfigure 4 (some .int) ({ frames := 7, cells := 0, slots := 0, locals := 160 } : Room) D gE_R gkd_R tc ad grh_R sa [.ref (ad 0 0), .int a1, .int a2] μ (some (.int r)) μ' := by
  refine gMet_of hI ⟨by decide +kernel, Nat.le_of_ble_eq_true rfl⟩ (fun p e s m args below meth c sz hr hlk => ?_)
  unfold mX7_reconfigure at h
  show JR p l e ({ frames := 7, cells := 0, slots := 0, locals := 160 } : Room) s m args below meth c cX7_reconfigure 4 RX7 D tc sa ad sz (some (.int r)) μ' μ 0 [(0, .ref (ad 0 0)), (1, .int a1), (2, .int a2)] []
  refine J_aload_n (i := 0) (q := 0) (pc1 := 1) dX7_reconfigure_0 rfl rfl rfl ?_
  refine J_iconst (v := 1) (pc1 := 2) dX7_reconfigure_1 (by decide) rfl ?_
  refine J_iload_n (i := 1) (q := 1) (pc1 := 3) dX7_reconfigure_2 rfl rfl rfl ?_
  obtain ⟨r2, hc1, h⟩ := gBp_s h
  refine J_callS (As := [.int a1]) (st := [.int 1, .ref (ad 0 0)]) (st1 := [.int r2, .int 1, .ref (ad 0 0)]) (pc1 := 6) (kX7_isNode l D tc sa ad hI a1 μ r2 hc1) wcX7_isNode wlX7_185 rfl ⟨rfl, rfl, Nat.le_of_ble_eq_true rfl, Nat.le_of_ble_eq_true rfl⟩ ⟨Nat.zero_le _, Nat.zero_le _⟩ (Nat.le_of_ble_eq_true rfl) dX7_reconfigure_3 rfl rfl ?_
  obtain ⟨x3, e4, h⟩ := gLet_s h
  have k5 : JR p l e ({ frames := 7, cells := 0, slots := 0, locals := 160 } : Room) s m args below meth c cX7_reconfigure 4 RX7 D tc sa ad sz (some (.int r)) μ' μ 14 [(0, .ref (ad 0 0)), (1, .int a1), (2, .int a2)] [.int x3, .int 1, .ref (ad 0 0)] := by
    obtain ⟨r8, μ9, hc7, h⟩ := gBd_s h
    refine J_callV (As := [.int 1, .int x3]) (ad := ad) (f := 0) (i := 0) (st := []) (st1 := [.int r8]) (pc1 := 17) (kX7_fails l D tc sa ad hI 1 x3 μ r8 μ9 hc7) wcX7_fails wlX7_55 eR0 rfl rfl rfl ⟨rfl, rfl, Nat.le_of_ble_eq_true rfl, Nat.le_of_ble_eq_true rfl⟩ ⟨Nat.zero_le _, Nat.zero_le _⟩ (Nat.le_of_ble_eq_true rfl) dX7_reconfigure_14 rfl rfl ?_
    refine J_if_ne (tgt := 86) (pc1 := 20) dX7_reconfigure_17 (by decide) (fun q10 => ?_) rfl (fun q10 => ?_)
    · rw [if_neg q10] at h
      refine J_iconst (v := 0) (pc1 := 87) dX7_reconfigure_86 (by decide) rfl ?_
      cases h
      exact J_iret hr hlk dX7_reconfigure_87
    · rw [if_pos q10] at h
      refine J_aload_n (i := 0) (q := 0) (pc1 := 21) dX7_reconfigure_20 rfl rfl rfl ?_
      refine J_iconst (v := 2) (pc1 := 22) dX7_reconfigure_21 (by decide) rfl ?_
      refine J_iload_n (i := 2) (q := 2) (pc1 := 23) dX7_reconfigure_22 rfl rfl rfl ?_
      obtain ⟨r12, hc11, h⟩ := gBp_s h
      refine J_callS (As := [.int a2]) (st := [.int 2, .ref (ad 0 0)]) (st1 := [.int r12, .int 2, .ref (ad 0 0)]) (pc1 := 26) (kX7_isGroup l D tc sa ad hI a2 μ9 r12 hc11) wcX7_isGroup wlX7_51 rfl ⟨rfl, rfl, Nat.le_of_ble_eq_true rfl, Nat.le_of_ble_eq_true rfl⟩ ⟨Nat.zero_le _, Nat.zero_le _⟩ (Nat.le_of_ble_eq_true rfl) dX7_reconfigure_23 rfl rfl ?_
      obtain ⟨x13, e14, h⟩ := gLet_s h
      have k15 : JR p l e ({ frames := 7, cells := 0, slots := 0, locals := 160 } : Room) s m args below meth c cX7_reconfigure 4 RX7 D tc sa ad sz (some (.int r)) μ' μ9 34 [(0, .ref (ad 0 0)), (1, .int a1), (2, .int a2)] [.int x13, .int 2, .ref (ad 0 0)] := by
        obtain ⟨r18, μ19, hc17, h⟩ := gBd_s h
        refine J_callV (As := [.int 2, .int x13]) (ad := ad) (f := 0) (i := 0) (st := []) (st1 := [.int r18]) (pc1 := 37) (kX7_fails l D tc sa ad hI 2 x13 μ9 r18 μ19 hc17) wcX7_fails wlX7_55 eR0 rfl rfl rfl ⟨rfl, rfl, Nat.le_of_ble_eq_true rfl, Nat.le_of_ble_eq_true rfl⟩ ⟨Nat.zero_le _, Nat.zero_le _⟩ (Nat.le_of_ble_eq_true rfl) dX7_reconfigure_34 rfl rfl ?_
        refine J_if_ne (tgt := 86) (pc1 := 40) dX7_reconfigure_37 (by decide) (fun q20 => ?_) rfl (fun q20 => ?_)
        · rw [if_neg q20] at h
          refine J_iconst (v := 0) (pc1 := 87) dX7_reconfigure_86 (by decide) rfl ?_
          cases h
          exact J_iret hr hlk dX7_reconfigure_87
        · rw [if_pos q20] at h
          refine J_aload_n (i := 0) (q := 0) (pc1 := 41) dX7_reconfigure_40 rfl rfl rfl ?_
          refine J_iconst (v := 3) (pc1 := 42) dX7_reconfigure_41 (by decide) rfl ?_
          refine J_aload_n (i := 0) (q := 0) (pc1 := 43) dX7_reconfigure_42 rfl rfl rfl ?_
          refine J_iload_n (i := 1) (q := 1) (pc1 := 44) dX7_reconfigure_43 rfl rfl rfl ?_
          obtain ⟨r22, hc21, h⟩ := gBp_s h
          refine J_callV (As := [.int a1]) (ad := ad) (f := 0) (i := 0) (st := [.int 3, .ref (ad 0 0)]) (st1 := [.int r22, .int 3, .ref (ad 0 0)]) (pc1 := 47) (kX7_canChange l D tc sa ad hI a1 μ19 r22 hc21) wcX7_canChange wlX7_188 eR0 rfl rfl rfl ⟨rfl, rfl, Nat.le_of_ble_eq_true rfl, Nat.le_of_ble_eq_true rfl⟩ ⟨Nat.zero_le _, Nat.zero_le _⟩ (Nat.le_of_ble_eq_true rfl) dX7_reconfigure_44 rfl rfl ?_
          obtain ⟨x23, e24, h⟩ := gLet_s h
          have k25 : JR p l e ({ frames := 7, cells := 0, slots := 0, locals := 160 } : Room) s m args below meth c cX7_reconfigure 4 RX7 D tc sa ad sz (some (.int r)) μ' μ19 55 [(0, .ref (ad 0 0)), (1, .int a1), (2, .int a2)] [.int x23, .int 3, .ref (ad 0 0)] := by
            obtain ⟨r28, μ29, hc27, h⟩ := gBd_s h
            refine J_callV (As := [.int 3, .int x23]) (ad := ad) (f := 0) (i := 0) (st := []) (st1 := [.int r28]) (pc1 := 58) (kX7_fails l D tc sa ad hI 3 x23 μ19 r28 μ29 hc27) wcX7_fails wlX7_55 eR0 rfl rfl rfl ⟨rfl, rfl, Nat.le_of_ble_eq_true rfl, Nat.le_of_ble_eq_true rfl⟩ ⟨Nat.zero_le _, Nat.zero_le _⟩ (Nat.le_of_ble_eq_true rfl) dX7_reconfigure_55 rfl rfl ?_
            refine J_if_ne (tgt := 86) (pc1 := 61) dX7_reconfigure_58 (by decide) (fun q30 => ?_) rfl (fun q30 => ?_)
            · rw [if_neg q30] at h
              refine J_iconst (v := 0) (pc1 := 87) dX7_reconfigure_86 (by decide) rfl ?_
              cases h
              exact J_iret hr hlk dX7_reconfigure_87
            · rw [if_pos q30] at h
              refine J_aload_n (i := 0) (q := 0) (pc1 := 62) dX7_reconfigure_61 rfl rfl rfl ?_
              refine J_iconst (v := 4) (pc1 := 63) dX7_reconfigure_62 (by decide) rfl ?_
              refine J_aload_n (i := 0) (q := 0) (pc1 := 64) dX7_reconfigure_63 rfl rfl rfl ?_
              refine J_iload_n (i := 1) (q := 1) (pc1 := 65) dX7_reconfigure_64 rfl rfl rfl ?_
              refine J_bipush (v := 12) (pc1 := 67) dX7_reconfigure_65 (by decide) rfl ?_
              obtain ⟨r32, hc31, h⟩ := gBp_s h
              refine J_callV (As := [.int a1, .int 12]) (ad := ad) (f := 0) (i := 0) (st := [.int 4, .ref (ad 0 0)]) (st1 := [.int r32, .int 4, .ref (ad 0 0)]) (pc1 := 70) (kX7_of l D tc sa ad hI a1 12 μ29 r32 hc31) wcX7_of wlX7_38 eR0 rfl rfl rfl ⟨rfl, rfl, Nat.le_of_ble_eq_true rfl, Nat.le_of_ble_eq_true rfl⟩ ⟨Nat.zero_le _, Nat.zero_le _⟩ (Nat.le_of_ble_eq_true rfl) dX7_reconfigure_67 rfl rfl ?_
              refine J_bipush (v := 24) (pc1 := 72) dX7_reconfigure_70 (by decide) rfl ?_
              obtain ⟨x33, e34, h⟩ := gLet_s h
              have k35 : JR p l e ({ frames := 7, cells := 0, slots := 0, locals := 160 } : Room) s m args below meth c cX7_reconfigure 4 RX7 D tc sa ad sz (some (.int r)) μ' μ29 80 [(0, .ref (ad 0 0)), (1, .int a1), (2, .int a2)] [.int x33, .int 4, .ref (ad 0 0)] := by
                obtain ⟨r38, μ39, hc37, h⟩ := gBd_s h
                refine J_callV (As := [.int 4, .int x33]) (ad := ad) (f := 0) (i := 0) (st := []) (st1 := [.int r38]) (pc1 := 83) (kX7_fails l D tc sa ad hI 4 x33 μ29 r38 μ39 hc37) wcX7_fails wlX7_55 eR0 rfl rfl rfl ⟨rfl, rfl, Nat.le_of_ble_eq_true rfl, Nat.le_of_ble_eq_true rfl⟩ ⟨Nat.zero_le _, Nat.zero_le _⟩ (Nat.le_of_ble_eq_true rfl) dX7_reconfigure_80 rfl rfl ?_
                refine J_if_eq (tgt := 88) (pc1 := 86) dX7_reconfigure_83 (by decide) (fun q40 => ?_) rfl (fun q40 => ?_)
                · rw [if_pos q40] at h
                  refine J_aload_n (i := 0) (q := 0) (pc1 := 89) dX7_reconfigure_88 rfl rfl rfl ?_
                  refine J_iload_n (i := 1) (q := 1) (pc1 := 90) dX7_reconfigure_89 rfl rfl rfl ?_
                  obtain ⟨r42, hc41, h⟩ := gBp_s h
                  refine J_callV (As := [.int a1]) (ad := ad) (f := 0) (i := 0) (st := []) (st1 := [.int r42]) (pc1 := 93) (kX7_last l D tc sa ad hI a1 μ39 r42 hc41) wcX7_last wlX7_67 eR0 rfl rfl rfl ⟨rfl, rfl, Nat.le_of_ble_eq_true rfl, Nat.le_of_ble_eq_true rfl⟩ ⟨Nat.zero_le _, Nat.zero_le _⟩ (Nat.le_of_ble_eq_true rfl) dX7_reconfigure_90 rfl rfl ?_
                  refine J_iconst (v := 1) (pc1 := 94) dX7_reconfigure_93 (by decide) rfl ?_
                  refine J_iadd (pc1 := 95) dX7_reconfigure_94 rfl ?_
                  obtain ⟨x43, e45, h⟩ := gLet_s h
                  refine J_top (fun y44 e46 => ?_)
                  have e46x : x43 = y44 := (e46.trans e45.symm).symm
                  subst e46x
                  refine J_istore_n (i := 3) (lv1 := [(3, .int x43), (0, .ref (ad 0 0)), (1, .int a1), (2, .int a2)]) (pc1 := 96) dX7_reconfigure_95 rfl (by decide) rfl rfl ?_
                  refine J_aload_n (i := 0) (q := 1) (pc1 := 97) dX7_reconfigure_96 rfl rfl rfl ?_
                  refine J_iload_n (i := 1) (q := 2) (pc1 := 98) dX7_reconfigure_97 rfl rfl rfl ?_
                  refine J_iconst (v := 1) (pc1 := 99) dX7_reconfigure_98 (by decide) rfl ?_
                  refine J_bipush (v := 32) (pc1 := 101) dX7_reconfigure_99 (by decide) rfl ?_
                  refine J_aload_n (i := 0) (q := 1) (pc1 := 102) dX7_reconfigure_101 rfl rfl rfl ?_
                  refine J_iload_n (i := 1) (q := 2) (pc1 := 103) dX7_reconfigure_102 rfl rfl rfl ?_
                  refine J_aload_n (i := 0) (q := 1) (pc1 := 104) dX7_reconfigure_103 rfl rfl rfl ?_
                  refine J_iload_n (i := 1) (q := 2) (pc1 := 105) dX7_reconfigure_104 rfl rfl rfl ?_
                  obtain ⟨r48, hc47, h⟩ := gBp_s h
                  refine J_callV (As := [.int a1]) (ad := ad) (f := 0) (i := 0) (st := [.int a1, .ref (ad 0 0), .int 32, .int 1, .int a1, .ref (ad 0 0)]) (st1 := [.int r48, .int a1, .ref (ad 0 0), .int 32, .int 1, .int a1, .ref (ad 0 0)]) (pc1 := 108) (kX7_configuration l D tc sa ad hI a1 μ39 r48 hc47) wcX7_configuration wlX7_73 eR0 rfl rfl rfl ⟨rfl, rfl, Nat.le_of_ble_eq_true rfl, Nat.le_of_ble_eq_true rfl⟩ ⟨Nat.zero_le _, Nat.zero_le _⟩ (Nat.le_of_ble_eq_true rfl) dX7_reconfigure_105 rfl rfl ?_
                  obtain ⟨r50, hc49, h⟩ := gBp_s h
                  refine J_callV (As := [.int a1, .int r48]) (ad := ad) (f := 0) (i := 0) (st := [.int 32, .int 1, .int a1, .ref (ad 0 0)]) (st1 := [.int r50, .int 32, .int 1, .int a1, .ref (ad 0 0)]) (pc1 := 111) (kX7_newOf l D tc sa ad hI a1 r48 μ39 r50 hc49) wcX7_newOf wlX7_79 eR0 rfl rfl rfl ⟨rfl, rfl, Nat.le_of_ble_eq_true rfl, Nat.le_of_ble_eq_true rfl⟩ ⟨Nat.zero_le _, Nat.zero_le _⟩ (Nat.le_of_ble_eq_true rfl) dX7_reconfigure_108 rfl rfl ?_
                  refine J_imul (pc1 := 112) dX7_reconfigure_111 rfl ?_
                  refine J_iload_n (i := 2) (q := 3) (pc1 := 113) dX7_reconfigure_112 rfl rfl rfl ?_
                  refine J_iadd (pc1 := 114) dX7_reconfigure_113 rfl ?_
                  obtain ⟨μ52, hc51, h⟩ := gBp_s h
                  refine J_callV (As := [.int a1, .int 1, .int ((32 * r50) + a2)]) (ad := ad) (f := 0) (i := 0) (st := []) (st1 := []) (pc1 := 117) (kX7_append l D tc sa ad hI a1 1 ((32 * r50) + a2) μ39 μ52 hc51) wcX7_append wlX7_127 eR0 rfl rfl rfl ⟨rfl, rfl, Nat.le_of_ble_eq_true rfl, Nat.le_of_ble_eq_true rfl⟩ ⟨Nat.zero_le _, Nat.zero_le _⟩ (Nat.le_of_ble_eq_true rfl) dX7_reconfigure_114 rfl rfl ?_
                  refine J_iload_n (i := 3) (q := 0) (pc1 := 118) dX7_reconfigure_117 rfl rfl rfl ?_
                  cases h
                  exact J_iret hr hlk dX7_reconfigure_118
                · rw [if_neg q40] at h
                  refine J_iconst (v := 0) (pc1 := 87) dX7_reconfigure_86 (by decide) rfl ?_
                  cases h
                  exact J_iret hr hlk dX7_reconfigure_87
              refine J_icmp_ne (tgt := 79) (pc1 := 75) dX7_reconfigure_72 (by decide) (fun q36 => ?_) rfl (fun q36 => ?_)
              · rw [if_neg q36] at e34
                subst e34
                refine J_iconst (v := 0) (pc1 := 80) dX7_reconfigure_79 (by decide) rfl ?_
                exact k35
              · rw [if_pos q36] at e34
                subst e34
                refine J_iconst (v := 1) (pc1 := 76) dX7_reconfigure_75 (by decide) rfl ?_
                refine J_goto (tgt := 80) dX7_reconfigure_76 (by decide) ?_
                exact k35
          refine J_if_ne (tgt := 54) (pc1 := 50) dX7_reconfigure_47 (by decide) (fun q26 => ?_) rfl (fun q26 => ?_)
          · rw [if_neg q26] at e24
            subst e24
            refine J_iconst (v := 0) (pc1 := 55) dX7_reconfigure_54 (by decide) rfl ?_
            exact k25
          · rw [if_pos q26] at e24
            subst e24
            refine J_iconst (v := 1) (pc1 := 51) dX7_reconfigure_50 (by decide) rfl ?_
            refine J_goto (tgt := 55) dX7_reconfigure_51 (by decide) ?_
            exact k25
      refine J_if_ne (tgt := 33) (pc1 := 29) dX7_reconfigure_26 (by decide) (fun q16 => ?_) rfl (fun q16 => ?_)
      · rw [if_neg q16] at e14
        subst e14
        refine J_iconst (v := 0) (pc1 := 34) dX7_reconfigure_33 (by decide) rfl ?_
        exact k15
      · rw [if_pos q16] at e14
        subst e14
        refine J_iconst (v := 1) (pc1 := 30) dX7_reconfigure_29 (by decide) rfl ?_
        refine J_goto (tgt := 34) dX7_reconfigure_30 (by decide) ?_
        exact k15
  refine J_if_ne (tgt := 13) (pc1 := 9) dX7_reconfigure_6 (by decide) (fun q6 => ?_) rfl (fun q6 => ?_)
  · rw [if_neg q6] at e4
    subst e4
    refine J_iconst (v := 0) (pc1 := 14) dX7_reconfigure_13 (by decide) rfl ?_
    exact k5
  · rw [if_pos q6] at e4
    subst e4
    refine J_iconst (v := 1) (pc1 := 10) dX7_reconfigure_9 (by decide) rfl ?_
    refine J_goto (tgt := 14) dX7_reconfigure_10 (by decide) ?_
    exact k5
def mX7_pack (a1 : Int32) (μ : gM) : Option (Int32 × gM) :=
  gBp (mX7_isNode a1 μ) fun r2 =>
  gLet (α := Int32) (if r2 = 0 then 1 else 0) fun x3 =>
  gBd (mX7_fails 1 x3 μ) fun r8 μ9 =>
  if r8 = 0 then
    gBp (mX7_of a1 0 μ9) fun r12 =>
    gLet (α := Int32) (if r12 = 0 then 1 else 0) fun x13 =>
    gBd (mX7_fails 2 x13 μ9) fun r18 μ19 =>
    if r18 = 0 then
      gBp (mX7_of a1 4 μ19) fun r22 =>
      gBp (mX7_of a1 7 μ19) fun r24 =>
      gLet (α := Int32) (r22 - r24) fun x25 =>
      gBp (mX7_configurationAt a1 r22 μ19) fun r30 =>
      gBp (mX7_oldOf a1 r30 μ19) fun r32 =>
      gBp (mX7_newOf a1 r30 μ19) fun r34 =>
      gBp (mX7_resultOf a1 μ19) fun r36 =>
      gBp (mX7_termAt a1 r22 μ19) fun r38 =>
      gBp (mX7_dropFirst a1 x25 μ19) fun μ40 =>
      gBp (mX7_set a1 7 r22 μ40) fun μ42 =>
      gBp (mX7_set a1 8 r38 μ42) fun μ44 =>
      gBp (mX7_set a1 9 r36 μ44) fun μ46 =>
      gBp (mX7_set a1 10 r32 μ46) fun μ48 =>
      gBp (mX7_set a1 11 r34 μ48) fun μ50 =>
      some (x25, μ50)
    else
      some (0, μ19)
  else
    some (0, μ9)
set_option maxHeartbeats 4000000 in
set_option maxRecDepth 100000 in
theorem kX7_pack (l : Launch) (D : va_G) (tc : Nat → ClassId) (sa : Nat → Nat) (ad : Nat → Nat → Nat) (hI : gI gE_R ad) (a1 : Int32) (μ : gM) (r : Int32) (μ' : gM) (h : mX7_pack a1 μ = some (r, μ')) : gMet l yX7_pack cX7_pack 9 (some .int) ({ frames := 3, cells := 0, slots := 0, locals := 70 } : Room) D gE_R gkd_R tc ad grh_R sa [.ref (ad 0 0), .int a1] μ (some (.int r)) μ' := by
  refine gMet_of hI ⟨by decide +kernel, Nat.le_of_ble_eq_true rfl⟩ (fun p e s m args below meth c sz hr hlk => ?_)
  unfold mX7_pack at h
  show JR p l e ({ frames := 3, cells := 0, slots := 0, locals := 70 } : Room) s m args below meth c cX7_pack 9 RX7 D tc sa ad sz (some (.int r)) μ' μ 0 [(0, .ref (ad 0 0)), (1, .int a1)] []
  refine J_aload_n (i := 0) (q := 0) (pc1 := 1) dX7_pack_0 rfl rfl rfl ?_
  refine J_iconst (v := 1) (pc1 := 2) dX7_pack_1 (by decide) rfl ?_
  refine J_iload_n (i := 1) (q := 1) (pc1 := 3) dX7_pack_2 rfl rfl rfl ?_
  obtain ⟨r2, hc1, h⟩ := gBp_s h
  refine J_callS (As := [.int a1]) (st := [.int 1, .ref (ad 0 0)]) (st1 := [.int r2, .int 1, .ref (ad 0 0)]) (pc1 := 6) (kX7_isNode l D tc sa ad hI a1 μ r2 hc1) wcX7_isNode wlX7_185 rfl ⟨rfl, rfl, Nat.le_of_ble_eq_true rfl, Nat.le_of_ble_eq_true rfl⟩ ⟨Nat.zero_le _, Nat.zero_le _⟩ (Nat.le_of_ble_eq_true rfl) dX7_pack_3 rfl rfl ?_
  obtain ⟨x3, e4, h⟩ := gLet_s h
  have k5 : JR p l e ({ frames := 3, cells := 0, slots := 0, locals := 70 } : Room) s m args below meth c cX7_pack 9 RX7 D tc sa ad sz (some (.int r)) μ' μ 14 [(0, .ref (ad 0 0)), (1, .int a1)] [.int x3, .int 1, .ref (ad 0 0)] := by
    obtain ⟨r8, μ9, hc7, h⟩ := gBd_s h
    refine J_callV (As := [.int 1, .int x3]) (ad := ad) (f := 0) (i := 0) (st := []) (st1 := [.int r8]) (pc1 := 17) (kX7_fails l D tc sa ad hI 1 x3 μ r8 μ9 hc7) wcX7_fails wlX7_55 eR0 rfl rfl rfl ⟨rfl, rfl, Nat.le_of_ble_eq_true rfl, Nat.le_of_ble_eq_true rfl⟩ ⟨Nat.zero_le _, Nat.zero_le _⟩ (Nat.le_of_ble_eq_true rfl) dX7_pack_14 rfl rfl ?_
    refine J_if_ne (tgt := 42) (pc1 := 20) dX7_pack_17 (by decide) (fun q10 => ?_) rfl (fun q10 => ?_)
    · rw [if_neg q10] at h
      refine J_iconst (v := 0) (pc1 := 43) dX7_pack_42 (by decide) rfl ?_
      cases h
      exact J_iret hr hlk dX7_pack_43
    · rw [if_pos q10] at h
      refine J_aload_n (i := 0) (q := 0) (pc1 := 21) dX7_pack_20 rfl rfl rfl ?_
      refine J_iconst (v := 2) (pc1 := 22) dX7_pack_21 (by decide) rfl ?_
      refine J_aload_n (i := 0) (q := 0) (pc1 := 23) dX7_pack_22 rfl rfl rfl ?_
      refine J_iload_n (i := 1) (q := 1) (pc1 := 24) dX7_pack_23 rfl rfl rfl ?_
      refine J_iconst (v := 0) (pc1 := 25) dX7_pack_24 (by decide) rfl ?_
      obtain ⟨r12, hc11, h⟩ := gBp_s h
      refine J_callV (As := [.int a1, .int 0]) (ad := ad) (f := 0) (i := 0) (st := [.int 2, .ref (ad 0 0)]) (st1 := [.int r12, .int 2, .ref (ad 0 0)]) (pc1 := 28) (kX7_of l D tc sa ad hI a1 0 μ9 r12 hc11) wcX7_of wlX7_38 eR0 rfl rfl rfl ⟨rfl, rfl, Nat.le_of_ble_eq_true rfl, Nat.le_of_ble_eq_true rfl⟩ ⟨Nat.zero_le _, Nat.zero_le _⟩ (Nat.le_of_ble_eq_true rfl) dX7_pack_25 rfl rfl ?_
      obtain ⟨x13, e14, h⟩ := gLet_s h
      have k15 : JR p l e ({ frames := 3, cells := 0, slots := 0, locals := 70 } : Room) s m args below meth c cX7_pack 9 RX7 D tc sa ad sz (some (.int r)) μ' μ9 36 [(0, .ref (ad 0 0)), (1, .int a1)] [.int x13, .int 2, .ref (ad 0 0)] := by
        obtain ⟨r18, μ19, hc17, h⟩ := gBd_s h
        refine J_callV (As := [.int 2, .int x13]) (ad := ad) (f := 0) (i := 0) (st := []) (st1 := [.int r18]) (pc1 := 39) (kX7_fails l D tc sa ad hI 2 x13 μ9 r18 μ19 hc17) wcX7_fails wlX7_55 eR0 rfl rfl rfl ⟨rfl, rfl, Nat.le_of_ble_eq_true rfl, Nat.le_of_ble_eq_true rfl⟩ ⟨Nat.zero_le _, Nat.zero_le _⟩ (Nat.le_of_ble_eq_true rfl) dX7_pack_36 rfl rfl ?_
        refine J_if_eq (tgt := 44) (pc1 := 42) dX7_pack_39 (by decide) (fun q20 => ?_) rfl (fun q20 => ?_)
        · rw [if_pos q20] at h
          refine J_aload_n (i := 0) (q := 0) (pc1 := 45) dX7_pack_44 rfl rfl rfl ?_
          refine J_iload_n (i := 1) (q := 1) (pc1 := 46) dX7_pack_45 rfl rfl rfl ?_
          refine J_iconst (v := 4) (pc1 := 47) dX7_pack_46 (by decide) rfl ?_
          obtain ⟨r22, hc21, h⟩ := gBp_s h
          refine J_callV (As := [.int a1, .int 4]) (ad := ad) (f := 0) (i := 0) (st := []) (st1 := [.int r22]) (pc1 := 50) (kX7_of l D tc sa ad hI a1 4 μ19 r22 hc21) wcX7_of wlX7_38 eR0 rfl rfl rfl ⟨rfl, rfl, Nat.le_of_ble_eq_true rfl, Nat.le_of_ble_eq_true rfl⟩ ⟨Nat.zero_le _, Nat.zero_le _⟩ (Nat.le_of_ble_eq_true rfl) dX7_pack_47 rfl rfl ?_
          refine J_istore_n (i := 2) (lv1 := [(2, .int r22), (0, .ref (ad 0 0)), (1, .int a1)]) (pc1 := 51) dX7_pack_50 rfl (by decide) rfl rfl ?_
          refine J_iload_n (i := 2) (q := 0) (pc1 := 52) dX7_pack_51 rfl rfl rfl ?_
          refine J_aload_n (i := 0) (q := 1) (pc1 := 53) dX7_pack_52 rfl rfl rfl ?_
          refine J_iload_n (i := 1) (q := 2) (pc1 := 54) dX7_pack_53 rfl rfl rfl ?_
          refine J_bipush (v := 7) (pc1 := 56) dX7_pack_54 (by decide) rfl ?_
          obtain ⟨r24, hc23, h⟩ := gBp_s h
          refine J_callV (As := [.int a1, .int 7]) (ad := ad) (f := 0) (i := 0) (st := [.int r22]) (st1 := [.int r24, .int r22]) (pc1 := 59) (kX7_of l D tc sa ad hI a1 7 μ19 r24 hc23) wcX7_of wlX7_38 eR0 rfl rfl rfl ⟨rfl, rfl, Nat.le_of_ble_eq_true rfl, Nat.le_of_ble_eq_true rfl⟩ ⟨Nat.zero_le _, Nat.zero_le _⟩ (Nat.le_of_ble_eq_true rfl) dX7_pack_56 rfl rfl ?_
          refine J_isub (pc1 := 60) dX7_pack_59 rfl ?_
          obtain ⟨x25, e27, h⟩ := gLet_s h
          refine J_top (fun y26 e28 => ?_)
          have e28x : x25 = y26 := (e28.trans e27.symm).symm
          subst e28x
          refine J_istore_n (i := 3) (lv1 := [(3, .int x25), (2, .int r22), (0, .ref (ad 0 0)), (1, .int a1)]) (pc1 := 61) dX7_pack_60 rfl (by decide) rfl rfl ?_
          refine J_aload_n (i := 0) (q := 2) (pc1 := 62) dX7_pack_61 rfl rfl rfl ?_
          refine J_iload_n (i := 1) (q := 3) (pc1 := 63) dX7_pack_62 rfl rfl rfl ?_
          refine J_iload_n (i := 2) (q := 1) (pc1 := 64) dX7_pack_63 rfl rfl rfl ?_
          obtain ⟨r30, hc29, h⟩ := gBp_s h
          refine J_callV (As := [.int a1, .int r22]) (ad := ad) (f := 0) (i := 0) (st := []) (st1 := [.int r30]) (pc1 := 67) (kX7_configurationAt l D tc sa ad hI a1 r22 μ19 r30 hc29) wcX7_configurationAt wlX7_70 eR0 rfl rfl rfl ⟨rfl, rfl, Nat.le_of_ble_eq_true rfl, Nat.le_of_ble_eq_true rfl⟩ ⟨Nat.zero_le _, Nat.zero_le _⟩ (Nat.le_of_ble_eq_true rfl) dX7_pack_64 rfl rfl ?_
          refine J_istore (i := 4) (lv1 := [(4, .int r30), (3, .int x25), (2, .int r22), (0, .ref (ad 0 0)), (1, .int a1)]) (pc1 := 69) dX7_pack_67 (by decide) rfl rfl ?_
          refine J_aload_n (i := 0) (q := 3) (pc1 := 70) dX7_pack_69 rfl rfl rfl ?_
          refine J_iload_n (i := 1) (q := 4) (pc1 := 71) dX7_pack_70 rfl rfl rfl ?_
          refine J_iload (i := 4) (q := 0) (pc1 := 73) dX7_pack_71 rfl rfl ?_
          obtain ⟨r32, hc31, h⟩ := gBp_s h
          refine J_callV (As := [.int a1, .int r30]) (ad := ad) (f := 0) (i := 0) (st := []) (st1 := [.int r32]) (pc1 := 76) (kX7_oldOf l D tc sa ad hI a1 r30 μ19 r32 hc31) wcX7_oldOf wlX7_76 eR0 rfl rfl rfl ⟨rfl, rfl, Nat.le_of_ble_eq_true rfl, Nat.le_of_ble_eq_true rfl⟩ ⟨Nat.zero_le _, Nat.zero_le _⟩ (Nat.le_of_ble_eq_true rfl) dX7_pack_73 rfl rfl ?_
          refine J_istore (i := 5) (lv1 := [(5, .int r32), (4, .int r30), (3, .int x25), (2, .int r22), (0, .ref (ad 0 0)), (1, .int a1)]) (pc1 := 78) dX7_pack_76 (by decide) rfl rfl ?_
          refine J_aload_n (i := 0) (q := 4) (pc1 := 79) dX7_pack_78 rfl rfl rfl ?_
          refine J_iload_n (i := 1) (q := 5) (pc1 := 80) dX7_pack_79 rfl rfl rfl ?_
          refine J_iload (i := 4) (q := 1) (pc1 := 82) dX7_pack_80 rfl rfl ?_
          obtain ⟨r34, hc33, h⟩ := gBp_s h
          refine J_callV (As := [.int a1, .int r30]) (ad := ad) (f := 0) (i := 0) (st := []) (st1 := [.int r34]) (pc1 := 85) (kX7_newOf l D tc sa ad hI a1 r30 μ19 r34 hc33) wcX7_newOf wlX7_79 eR0 rfl rfl rfl ⟨rfl, rfl, Nat.le_of_ble_eq_true rfl, Nat.le_of_ble_eq_true rfl⟩ ⟨Nat.zero_le _, Nat.zero_le _⟩ (Nat.le_of_ble_eq_true rfl) dX7_pack_82 rfl rfl ?_
          refine J_istore (i := 6) (lv1 := [(6, .int r34), (5, .int r32), (4, .int r30), (3, .int x25), (2, .int r22), (0, .ref (ad 0 0)), (1, .int a1)]) (pc1 := 87) dX7_pack_85 (by decide) rfl rfl ?_
          refine J_aload_n (i := 0) (q := 5) (pc1 := 88) dX7_pack_87 rfl rfl rfl ?_
          refine J_iload_n (i := 1) (q := 6) (pc1 := 89) dX7_pack_88 rfl rfl rfl ?_
          obtain ⟨r36, hc35, h⟩ := gBp_s h
          refine J_callV (As := [.int a1]) (ad := ad) (f := 0) (i := 0) (st := []) (st1 := [.int r36]) (pc1 := 92) (kX7_resultOf l D tc sa ad hI a1 μ19 r36 hc35) wcX7_resultOf wlX7_191 eR0 rfl rfl rfl ⟨rfl, rfl, Nat.le_of_ble_eq_true rfl, Nat.le_of_ble_eq_true rfl⟩ ⟨Nat.zero_le _, Nat.zero_le _⟩ (Nat.le_of_ble_eq_true rfl) dX7_pack_89 rfl rfl ?_
          refine J_istore (i := 7) (lv1 := [(7, .int r36), (6, .int r34), (5, .int r32), (4, .int r30), (3, .int x25), (2, .int r22), (0, .ref (ad 0 0)), (1, .int a1)]) (pc1 := 94) dX7_pack_92 (by decide) rfl rfl ?_
          refine J_aload_n (i := 0) (q := 6) (pc1 := 95) dX7_pack_94 rfl rfl rfl ?_
          refine J_iload_n (i := 1) (q := 7) (pc1 := 96) dX7_pack_95 rfl rfl rfl ?_
          refine J_iload_n (i := 2) (q := 5) (pc1 := 97) dX7_pack_96 rfl rfl rfl ?_
          obtain ⟨r38, hc37, h⟩ := gBp_s h
          refine J_callV (As := [.int a1, .int r22]) (ad := ad) (f := 0) (i := 0) (st := []) (st1 := [.int r38]) (pc1 := 100) (kX7_termAt l D tc sa ad hI a1 r22 μ19 r38 hc37) wcX7_termAt wlX7_99 eR0 rfl rfl rfl ⟨rfl, rfl, Nat.le_of_ble_eq_true rfl, Nat.le_of_ble_eq_true rfl⟩ ⟨Nat.zero_le _, Nat.zero_le _⟩ (Nat.le_of_ble_eq_true rfl) dX7_pack_97 rfl rfl ?_
          refine J_istore (i := 8) (lv1 := [(8, .int r38), (7, .int r36), (6, .int r34), (5, .int r32), (4, .int r30), (3, .int x25), (2, .int r22), (0, .ref (ad 0 0)), (1, .int a1)]) (pc1 := 102) dX7_pack_100 (by decide) rfl rfl ?_
          refine J_aload_n (i := 0) (q := 7) (pc1 := 103) dX7_pack_102 rfl rfl rfl ?_
          refine J_iload_n (i := 1) (q := 8) (pc1 := 104) dX7_pack_103 rfl rfl rfl ?_
          refine J_iload_n (i := 3) (q := 5) (pc1 := 105) dX7_pack_104 rfl rfl rfl ?_
          obtain ⟨μ40, hc39, h⟩ := gBp_s h
          refine J_callV (As := [.int a1, .int x25]) (ad := ad) (f := 0) (i := 0) (st := []) (st1 := []) (pc1 := 108) (kX7_dropFirst l D tc sa ad hI a1 x25 μ19 μ40 hc39) wcX7_dropFirst wlX7_142 eR0 rfl rfl rfl ⟨rfl, rfl, Nat.le_of_ble_eq_true rfl, Nat.le_of_ble_eq_true rfl⟩ ⟨Nat.zero_le _, Nat.zero_le _⟩ (Nat.le_of_ble_eq_true rfl) dX7_pack_105 rfl rfl ?_
          refine J_aload_n (i := 0) (q := 7) (pc1 := 109) dX7_pack_108 rfl rfl rfl ?_
          refine J_iload_n (i := 1) (q := 8) (pc1 := 110) dX7_pack_109 rfl rfl rfl ?_
          refine J_bipush (v := 7) (pc1 := 112) dX7_pack_110 (by decide) rfl ?_
          refine J_iload_n (i := 2) (q := 6) (pc1 := 113) dX7_pack_112 rfl rfl rfl ?_
          obtain ⟨μ42, hc41, h⟩ := gBp_s h
          refine J_callV (As := [.int a1, .int 7, .int r22]) (ad := ad) (f := 0) (i := 0) (st := []) (st1 := []) (pc1 := 116) (kX7_set l D tc sa ad hI a1 7 r22 μ40 μ42 hc41) wcX7_set wlX7_43 eR0 rfl rfl rfl ⟨rfl, rfl, Nat.le_of_ble_eq_true rfl, Nat.le_of_ble_eq_true rfl⟩ ⟨Nat.zero_le _, Nat.zero_le _⟩ (Nat.le_of_ble_eq_true rfl) dX7_pack_113 rfl rfl ?_
          refine J_aload_n (i := 0) (q := 7) (pc1 := 117) dX7_pack_116 rfl rfl rfl ?_
          refine J_iload_n (i := 1) (q := 8) (pc1 := 118) dX7_pack_117 rfl rfl rfl ?_
          refine J_bipush (v := 8) (pc1 := 120) dX7_pack_118 (by decide) rfl ?_
          refine J_iload (i := 8) (q := 0) (pc1 := 122) dX7_pack_120 rfl rfl ?_
          obtain ⟨μ44, hc43, h⟩ := gBp_s h
          refine J_callV (As := [.int a1, .int 8, .int r38]) (ad := ad) (f := 0) (i := 0) (st := []) (st1 := []) (pc1 := 125) (kX7_set l D tc sa ad hI a1 8 r38 μ42 μ44 hc43) wcX7_set wlX7_43 eR0 rfl rfl rfl ⟨rfl, rfl, Nat.le_of_ble_eq_true rfl, Nat.le_of_ble_eq_true rfl⟩ ⟨Nat.zero_le _, Nat.zero_le _⟩ (Nat.le_of_ble_eq_true rfl) dX7_pack_122 rfl rfl ?_
          refine J_aload_n (i := 0) (q := 7) (pc1 := 126) dX7_pack_125 rfl rfl rfl ?_
          refine J_iload_n (i := 1) (q := 8) (pc1 := 127) dX7_pack_126 rfl rfl rfl ?_
          refine J_bipush (v := 9) (pc1 := 129) dX7_pack_127 (by decide) rfl ?_
          refine J_iload (i := 7) (q := 1) (pc1 := 131) dX7_pack_129 rfl rfl ?_
          obtain ⟨μ46, hc45, h⟩ := gBp_s h
          refine J_callV (As := [.int a1, .int 9, .int r36]) (ad := ad) (f := 0) (i := 0) (st := []) (st1 := []) (pc1 := 134) (kX7_set l D tc sa ad hI a1 9 r36 μ44 μ46 hc45) wcX7_set wlX7_43 eR0 rfl rfl rfl ⟨rfl, rfl, Nat.le_of_ble_eq_true rfl, Nat.le_of_ble_eq_true rfl⟩ ⟨Nat.zero_le _, Nat.zero_le _⟩ (Nat.le_of_ble_eq_true rfl) dX7_pack_131 rfl rfl ?_
          refine J_aload_n (i := 0) (q := 7) (pc1 := 135) dX7_pack_134 rfl rfl rfl ?_
          refine J_iload_n (i := 1) (q := 8) (pc1 := 136) dX7_pack_135 rfl rfl rfl ?_
          refine J_bipush (v := 10) (pc1 := 138) dX7_pack_136 (by decide) rfl ?_
          refine J_iload (i := 5) (q := 3) (pc1 := 140) dX7_pack_138 rfl rfl ?_
          obtain ⟨μ48, hc47, h⟩ := gBp_s h
          refine J_callV (As := [.int a1, .int 10, .int r32]) (ad := ad) (f := 0) (i := 0) (st := []) (st1 := []) (pc1 := 143) (kX7_set l D tc sa ad hI a1 10 r32 μ46 μ48 hc47) wcX7_set wlX7_43 eR0 rfl rfl rfl ⟨rfl, rfl, Nat.le_of_ble_eq_true rfl, Nat.le_of_ble_eq_true rfl⟩ ⟨Nat.zero_le _, Nat.zero_le _⟩ (Nat.le_of_ble_eq_true rfl) dX7_pack_140 rfl rfl ?_
          refine J_aload_n (i := 0) (q := 7) (pc1 := 144) dX7_pack_143 rfl rfl rfl ?_
          refine J_iload_n (i := 1) (q := 8) (pc1 := 145) dX7_pack_144 rfl rfl rfl ?_
          refine J_bipush (v := 11) (pc1 := 147) dX7_pack_145 (by decide) rfl ?_
          refine J_iload (i := 6) (q := 2) (pc1 := 149) dX7_pack_147 rfl rfl ?_
          obtain ⟨μ50, hc49, h⟩ := gBp_s h
          refine J_callV (As := [.int a1, .int 11, .int r34]) (ad := ad) (f := 0) (i := 0) (st := []) (st1 := []) (pc1 := 152) (kX7_set l D tc sa ad hI a1 11 r34 μ48 μ50 hc49) wcX7_set wlX7_43 eR0 rfl rfl rfl ⟨rfl, rfl, Nat.le_of_ble_eq_true rfl, Nat.le_of_ble_eq_true rfl⟩ ⟨Nat.zero_le _, Nat.zero_le _⟩ (Nat.le_of_ble_eq_true rfl) dX7_pack_149 rfl rfl ?_
          refine J_iload_n (i := 3) (q := 5) (pc1 := 153) dX7_pack_152 rfl rfl rfl ?_
          cases h
          exact J_iret hr hlk dX7_pack_153
        · rw [if_neg q20] at h
          refine J_iconst (v := 0) (pc1 := 43) dX7_pack_42 (by decide) rfl ?_
          cases h
          exact J_iret hr hlk dX7_pack_43
      refine J_if_ne (tgt := 35) (pc1 := 31) dX7_pack_28 (by decide) (fun q16 => ?_) rfl (fun q16 => ?_)
      · rw [if_neg q16] at e14
        subst e14
        refine J_iconst (v := 0) (pc1 := 36) dX7_pack_35 (by decide) rfl ?_
        exact k15
      · rw [if_pos q16] at e14
        subst e14
        refine J_iconst (v := 1) (pc1 := 32) dX7_pack_31 (by decide) rfl ?_
        refine J_goto (tgt := 36) dX7_pack_32 (by decide) ?_
        exact k15
  refine J_if_ne (tgt := 13) (pc1 := 9) dX7_pack_6 (by decide) (fun q6 => ?_) rfl (fun q6 => ?_)
  · rw [if_neg q6] at e4
    subst e4
    refine J_iconst (v := 0) (pc1 := 14) dX7_pack_13 (by decide) rfl ?_
    exact k5
  · rw [if_pos q6] at e4
    subst e4
    refine J_iconst (v := 1) (pc1 := 10) dX7_pack_9 (by decide) rfl ?_
    refine J_goto (tgt := 14) dX7_pack_10 (by decide) ?_
    exact k5
def mX7_echoing (a1 : Int32) (a2 : Int32) (μ : gM) : Option Int32 :=
  gLet (α := Int32) (if (μ 1 0 0) < a2 then 0 else 1 <<< (a1 &&& 31)) fun x1 =>
  gJon (fun (x5 : Int32) =>
      some x5) fun j6 =>
  gFx2 (fun rec9 (x7 : Int32) (x8 : Int32) =>
      if 5 ≤ x8 then
        j6 x7
      else
        gJon (fun (x11 : Int32) =>
            gLet (α := Int32) (x7 ||| x11) fun x13 =>
            rec9 x13 (x8 + 1)) fun j12 =>
        gJon (fun (u18 : Unit) =>
            j12 0) fun j17 =>
        if x8 = a1 then
          j17 () 
        else
          gBp (mX7_of a1 (23 + x8) μ) fun r21 =>
          gLet (α := Int32) (if r21 < a2 then 0 else 1 <<< (x8 &&& 31)) fun x22 =>
          gLet (α := Int32) (x7 ||| x22) fun x26 =>
          rec9 x26 (x8 + 1)) 1000000 x1 0
set_option maxHeartbeats 4000000 in
set_option maxRecDepth 100000 in
theorem kX7_echoing (l : Launch) (D : va_G) (tc : Nat → ClassId) (sa : Nat → Nat) (ad : Nat → Nat → Nat) (hI : gI gE_R ad) (a1 : Int32) (a2 : Int32) (μ : gM) (r : Int32) (h : mX7_echoing a1 a2 μ = some r) : gMet l yX7_echoing cX7_echoing 5 (some .int) ({ frames := 1, cells := 0, slots := 0, locals := 22 } : Room) D gE_R gkd_R tc ad grh_R sa [.ref (ad 0 0), .int a1, .int a2] μ (some (.int r)) μ := by
  refine gMet_of hI ⟨by decide +kernel, Nat.le_of_ble_eq_true rfl⟩ (fun p e s m args below meth c sz hr hlk => ?_)
  unfold mX7_echoing at h
  show JR p l e ({ frames := 1, cells := 0, slots := 0, locals := 22 } : Room) s m args below meth c cX7_echoing 5 RX7 D tc sa ad sz (some (.int r)) μ μ 0 [(0, .ref (ad 0 0)), (1, .int a1), (2, .int a2)] []
  refine J_aload_n (i := 0) (q := 0) (pc1 := 1) dX7_echoing_0 rfl rfl rfl ?_
  refine J_getR (T := TX7) (f' := 1) (i' := 0) (pc1 := 4) eR0 rfl rfl inX7 1 (by decide) rfl rfl flX7_9 rfl dX7_echoing_1 rfl ?_
  refine J_iconst (v := 0) (pc1 := 5) dX7_echoing_4 (by decide) rfl ?_
  refine J_iald (ix := 0) (pc1 := 6) (by decide) eR1 rfl (by decide : inb 0 1616) dX7_echoing_5 rfl ?_
  refine J_iload_n (i := 2) (q := 2) (pc1 := 7) dX7_echoing_6 rfl rfl rfl ?_
  obtain ⟨x1, e2, h⟩ := gLet_s h
  have k3 : JR p l e ({ frames := 1, cells := 0, slots := 0, locals := 22 } : Room) s m args below meth c cX7_echoing 5 RX7 D tc sa ad sz (some (.int r)) μ μ 17 [(0, .ref (ad 0 0)), (1, .int a1), (2, .int a2)] [.int x1] := by
    refine J_istore_n (i := 3) (lv1 := [(3, .int x1), (0, .ref (ad 0 0)), (1, .int a1), (2, .int a2)]) (pc1 := 18) dX7_echoing_17 rfl (by decide) rfl rfl ?_
    refine J_iconst (v := 0) (pc1 := 19) dX7_echoing_18 (by decide) rfl ?_
    refine J_istore (i := 4) (lv1 := [(4, .int 0), (3, .int x1), (0, .ref (ad 0 0)), (1, .int a1), (2, .int a2)]) (pc1 := 21) dX7_echoing_19 (by decide) rfl rfl ?_
    obtain ⟨j6, ej6, h⟩ := gJon_s h
    have kj6 : ∀ (x5 : Int32), j6 x5 = some r → JR p l e ({ frames := 1, cells := 0, slots := 0, locals := 22 } : Room) s m args below meth c cX7_echoing 5 RX7 D tc sa ad sz (some (.int r)) μ μ 64 [(3, .int x5)] [] := by
      intro x5 h
      rw [ej6] at h
      try dsimp only at h
      refine J_iload_n (i := 3) (q := 0) (pc1 := 65) dX7_echoing_64 rfl rfl rfl ?_
      cases h
      exact J_iret hr hlk dX7_echoing_65
    clear ej6
    refine J_sub [2, 3, 4, 1, 0] (lv1 := [(0, .ref (ad 0 0)), (1, .int a1), (2, .int a2), (3, .int x1), (4, .int 0)]) rfl ?_
    refine gFx2_s (P := fun x7 x8 => JR p l e ({ frames := 1, cells := 0, slots := 0, locals := 22 } : Room) s m args below meth c cX7_echoing 5 RX7 D tc sa ad sz (some (.int r)) μ μ 21 [(0, .ref (ad 0 0)), (1, .int a1), (2, .int a2), (3, .int x7), (4, .int x8)] []) (fun rec9 ihrec9 x7 x8 h => ?_) _ _ _ h
    try dsimp only at h
    refine J_iload (i := 4) (q := 4) (pc1 := 23) dX7_echoing_21 rfl rfl ?_
    refine J_iconst (v := 5) (pc1 := 24) dX7_echoing_23 (by decide) rfl ?_
    refine J_icmp_ge (tgt := 64) (pc1 := 27) dX7_echoing_24 (by decide) (fun q10 => ?_) rfl (fun q10 => ?_)
    · rw [if_pos q10] at h
      refine J_sub [3] (lv1 := [(3, .int x7)]) rfl ?_
      exact kj6 _ h
    · rw [if_neg q10] at h
      refine J_iload_n (i := 3) (q := 3) (pc1 := 28) dX7_echoing_27 rfl rfl rfl ?_
      refine J_iload (i := 4) (q := 4) (pc1 := 30) dX7_echoing_28 rfl rfl ?_
      refine J_iload_n (i := 1) (q := 1) (pc1 := 31) dX7_echoing_30 rfl rfl rfl ?_
      obtain ⟨j12, ej12, h⟩ := gJon_s h
      have kj12 : ∀ (x11 : Int32), j12 x11 = some r → JR p l e ({ frames := 1, cells := 0, slots := 0, locals := 22 } : Room) s m args below meth c cX7_echoing 5 RX7 D tc sa ad sz (some (.int r)) μ μ 56 [(0, .ref (ad 0 0)), (1, .int a1), (2, .int a2), (4, .int x8)] [.int x11, .int x7] := by
        intro x11 h
        rw [ej12] at h
        try dsimp only at h
        refine J_ior (pc1 := 57) dX7_echoing_56 rfl ?_
        obtain ⟨x13, e15, h⟩ := gLet_s h
        refine J_top (fun y14 e16 => ?_)
        have e16x : x13 = y14 := (e16.trans e15.symm).symm
        subst e16x
        refine J_istore_n (i := 3) (lv1 := [(3, .int x13), (0, .ref (ad 0 0)), (1, .int a1), (2, .int a2), (4, .int x8)]) (pc1 := 58) dX7_echoing_57 rfl (by decide) rfl rfl ?_
        refine J_iinc (i := 4) (q := 4) (v := x8 + 1) (lv1 := [(4, .int (x8 + 1)), (3, .int x13), (0, .ref (ad 0 0)), (1, .int a1), (2, .int a2)]) (pc1 := 61) dX7_echoing_58 rfl rfl (by decide) rfl rfl ?_
        refine J_goto (tgt := 21) dX7_echoing_61 (by decide) ?_
        refine J_sub [2, 3, 4, 1, 0] (lv1 := [(0, .ref (ad 0 0)), (1, .int a1), (2, .int a2), (3, .int x13), (4, .int (x8 + 1))]) rfl ?_
        exact ihrec9 _ _ h
      clear ej12
      obtain ⟨j17, ej17, h⟩ := gJon_s h
      have kj17 : ∀ (u18 : Unit), j17 u18 = some r → JR p l e ({ frames := 1, cells := 0, slots := 0, locals := 22 } : Room) s m args below meth c cX7_echoing 5 RX7 D tc sa ad sz (some (.int r)) μ μ 55 [(0, .ref (ad 0 0)), (1, .int a1), (2, .int a2), (4, .int x8)] [.int x7] := by
        intro u18 h
        rw [ej17] at h
        try dsimp only at h
        refine J_iconst (v := 0) (pc1 := 56) dX7_echoing_55 (by decide) rfl ?_
        exact kj12 _ h
      clear ej17
      refine J_icmp_eq (tgt := 55) (pc1 := 34) dX7_echoing_31 (by decide) (fun q19 => ?_) rfl (fun q19 => ?_)
      · rw [if_pos q19] at h
        refine J_sub [0, 1, 2, 4] (lv1 := [(0, .ref (ad 0 0)), (1, .int a1), (2, .int a2), (4, .int x8)]) rfl ?_
        exact kj17 ()  h
      · rw [if_neg q19] at h
        refine J_aload_n (i := 0) (q := 0) (pc1 := 35) dX7_echoing_34 rfl rfl rfl ?_
        refine J_iload_n (i := 1) (q := 1) (pc1 := 36) dX7_echoing_35 rfl rfl rfl ?_
        refine J_bipush (v := 23) (pc1 := 38) dX7_echoing_36 (by decide) rfl ?_
        refine J_iload (i := 4) (q := 4) (pc1 := 40) dX7_echoing_38 rfl rfl ?_
        refine J_iadd (pc1 := 41) dX7_echoing_40 rfl ?_
        obtain ⟨r21, hc20, h⟩ := gBp_s h
        refine J_callV (As := [.int a1, .int (23 + x8)]) (ad := ad) (f := 0) (i := 0) (st := [.int x7]) (st1 := [.int r21, .int x7]) (pc1 := 44) (kX7_of l D tc sa ad hI a1 (23 + x8) μ r21 hc20) wcX7_of wlX7_38 eR0 rfl rfl rfl ⟨rfl, rfl, Nat.le_of_ble_eq_true rfl, Nat.le_of_ble_eq_true rfl⟩ ⟨Nat.zero_le _, Nat.zero_le _⟩ (Nat.le_of_ble_eq_true rfl) dX7_echoing_41 rfl rfl ?_
        refine J_iload_n (i := 2) (q := 2) (pc1 := 45) dX7_echoing_44 rfl rfl rfl ?_
        obtain ⟨x22, e23, h⟩ := gLet_s h
        have k24 : JR p l e ({ frames := 1, cells := 0, slots := 0, locals := 22 } : Room) s m args below meth c cX7_echoing 5 RX7 D tc sa ad sz (some (.int r)) μ μ 56 [(0, .ref (ad 0 0)), (1, .int a1), (2, .int a2), (3, .int x7), (4, .int x8)] [.int x22, .int x7] := by
          refine J_ior (pc1 := 57) dX7_echoing_56 rfl ?_
          obtain ⟨x26, e28, h⟩ := gLet_s h
          refine J_top (fun y27 e29 => ?_)
          have e29x : x26 = y27 := (e29.trans e28.symm).symm
          subst e29x
          refine J_istore_n (i := 3) (lv1 := [(3, .int x26), (0, .ref (ad 0 0)), (1, .int a1), (2, .int a2), (4, .int x8)]) (pc1 := 58) dX7_echoing_57 rfl (by decide) rfl rfl ?_
          refine J_iinc (i := 4) (q := 4) (v := x8 + 1) (lv1 := [(4, .int (x8 + 1)), (3, .int x26), (0, .ref (ad 0 0)), (1, .int a1), (2, .int a2)]) (pc1 := 61) dX7_echoing_58 rfl rfl (by decide) rfl rfl ?_
          refine J_goto (tgt := 21) dX7_echoing_61 (by decide) ?_
          refine J_sub [2, 3, 4, 1, 0] (lv1 := [(0, .ref (ad 0 0)), (1, .int a1), (2, .int a2), (3, .int x26), (4, .int (x8 + 1))]) rfl ?_
          exact ihrec9 _ _ h
        refine J_icmp_lt (tgt := 55) (pc1 := 48) dX7_echoing_45 (by decide) (fun q25 => ?_) rfl (fun q25 => ?_)
        · rw [if_pos q25] at e23
          subst e23
          refine J_iconst (v := 0) (pc1 := 56) dX7_echoing_55 (by decide) rfl ?_
          exact k24
        · rw [if_neg q25] at e23
          subst e23
          refine J_iconst (v := 1) (pc1 := 49) dX7_echoing_48 (by decide) rfl ?_
          refine J_iload (i := 4) (q := 4) (pc1 := 51) dX7_echoing_49 rfl rfl ?_
          refine J_ishl (pc1 := 52) dX7_echoing_51 rfl ?_
          refine J_goto (tgt := 56) dX7_echoing_52 (by decide) ?_
          exact k24
  refine J_icmp_lt (tgt := 16) (pc1 := 10) dX7_echoing_7 (by decide) (fun q4 => ?_) rfl (fun q4 => ?_)
  · rw [if_pos q4] at e2
    subst e2
    refine J_iconst (v := 0) (pc1 := 17) dX7_echoing_16 (by decide) rfl ?_
    exact k3
  · rw [if_neg q4] at e2
    subst e2
    refine J_iconst (v := 1) (pc1 := 11) dX7_echoing_10 (by decide) rfl ?_
    refine J_iload_n (i := 1) (q := 1) (pc1 := 12) dX7_echoing_11 rfl rfl rfl ?_
    refine J_ishl (pc1 := 13) dX7_echoing_12 rfl ?_
    refine J_goto (tgt := 17) dX7_echoing_13 (by decide) ?_
    exact k3
def mX7_lease (a1 : Int32) (μ : gM) : Option Int32 :=
  gLet (α := Int32) (μ 1 0 0) fun x1 =>
  gJon (fun (u6 : Unit) =>
      some (-1)) fun j5 =>
  gJon (fun (x7 : Int32) =>
      some (6 + x7)) fun j8 =>
  gFx1 (fun rec10 (x9 : Int32) =>
      if x9 < 0 then
        j5 () 
      else
        gBp (mX7_echoing a1 x9 μ) fun r13 =>
        gBp (mX7_isQuorum a1 r13 μ) fun r15 =>
        if r15 = 0 then
          rec10 (x9 + (-1))
        else
          j8 x9) 1000000 x1
set_option maxHeartbeats 4000000 in
set_option maxRecDepth 100000 in
theorem kX7_lease (l : Launch) (D : va_G) (tc : Nat → ClassId) (sa : Nat → Nat) (ad : Nat → Nat → Nat) (hI : gI gE_R ad) (a1 : Int32) (μ : gM) (r : Int32) (h : mX7_lease a1 μ = some r) : gMet l yX7_lease cX7_lease 3 (some .int) ({ frames := 5, cells := 0, slots := 0, locals := 114 } : Room) D gE_R gkd_R tc ad grh_R sa [.ref (ad 0 0), .int a1] μ (some (.int r)) μ := by
  refine gMet_of hI ⟨by decide +kernel, Nat.le_of_ble_eq_true rfl⟩ (fun p e s m args below meth c sz hr hlk => ?_)
  unfold mX7_lease at h
  show JR p l e ({ frames := 5, cells := 0, slots := 0, locals := 114 } : Room) s m args below meth c cX7_lease 3 RX7 D tc sa ad sz (some (.int r)) μ μ 0 [(0, .ref (ad 0 0)), (1, .int a1)] []
  refine J_aload_n (i := 0) (q := 0) (pc1 := 1) dX7_lease_0 rfl rfl rfl ?_
  refine J_getR (T := TX7) (f' := 1) (i' := 0) (pc1 := 4) eR0 rfl rfl inX7 1 (by decide) rfl rfl flX7_9 rfl dX7_lease_1 rfl ?_
  refine J_iconst (v := 0) (pc1 := 5) dX7_lease_4 (by decide) rfl ?_
  refine J_iald (ix := 0) (pc1 := 6) (by decide) eR1 rfl (by decide : inb 0 1616) dX7_lease_5 rfl ?_
  obtain ⟨x1, e3, h⟩ := gLet_s h
  refine J_top (fun y2 e4 => ?_)
  have e4x : x1 = y2 := (e4.trans e3.symm).symm
  subst e4x
  refine J_istore_n (i := 2) (lv1 := [(2, .int x1), (0, .ref (ad 0 0)), (1, .int a1)]) (pc1 := 7) dX7_lease_6 rfl (by decide) rfl rfl ?_
  obtain ⟨j5, ej5, h⟩ := gJon_s h
  have kj5 : ∀ (u6 : Unit), j5 u6 = some r → JR p l e ({ frames := 5, cells := 0, slots := 0, locals := 114 } : Room) s m args below meth c cX7_lease 3 RX7 D tc sa ad sz (some (.int r)) μ μ 36 [] [] := by
    intro u6 h
    rw [ej5] at h
    try dsimp only at h
    refine J_iconst (v := (-1)) (pc1 := 37) dX7_lease_36 (by decide) rfl ?_
    cases h
    exact J_iret hr hlk dX7_lease_37
  clear ej5
  obtain ⟨j8, ej8, h⟩ := gJon_s h
  have kj8 : ∀ (x7 : Int32), j8 x7 = some r → JR p l e ({ frames := 5, cells := 0, slots := 0, locals := 114 } : Room) s m args below meth c cX7_lease 3 RX7 D tc sa ad sz (some (.int r)) μ μ 25 [(2, .int x7)] [] := by
    intro x7 h
    rw [ej8] at h
    try dsimp only at h
    refine J_bipush (v := 6) (pc1 := 27) dX7_lease_25 (by decide) rfl ?_
    refine J_iload_n (i := 2) (q := 0) (pc1 := 28) dX7_lease_27 rfl rfl rfl ?_
    refine J_iadd (pc1 := 29) dX7_lease_28 rfl ?_
    cases h
    exact J_iret hr hlk dX7_lease_29
  clear ej8
  refine J_sub [1, 2, 0] (lv1 := [(0, .ref (ad 0 0)), (1, .int a1), (2, .int x1)]) rfl ?_
  refine gFx1_s (P := fun x9 => JR p l e ({ frames := 5, cells := 0, slots := 0, locals := 114 } : Room) s m args below meth c cX7_lease 3 RX7 D tc sa ad sz (some (.int r)) μ μ 7 [(0, .ref (ad 0 0)), (1, .int a1), (2, .int x9)] []) (fun rec10 ihrec10 x9 h => ?_) _ _ h
  try dsimp only at h
  refine J_iload_n (i := 2) (q := 2) (pc1 := 8) dX7_lease_7 rfl rfl rfl ?_
  refine J_if_lt (tgt := 36) (pc1 := 11) dX7_lease_8 (by decide) (fun q11 => ?_) rfl (fun q11 => ?_)
  · rw [if_pos q11] at h
    refine J_sub [] (lv1 := []) rfl ?_
    exact kj5 ()  h
  · rw [if_neg q11] at h
    refine J_aload_n (i := 0) (q := 0) (pc1 := 12) dX7_lease_11 rfl rfl rfl ?_
    refine J_iload_n (i := 1) (q := 1) (pc1 := 13) dX7_lease_12 rfl rfl rfl ?_
    refine J_aload_n (i := 0) (q := 0) (pc1 := 14) dX7_lease_13 rfl rfl rfl ?_
    refine J_iload_n (i := 1) (q := 1) (pc1 := 15) dX7_lease_14 rfl rfl rfl ?_
    refine J_iload_n (i := 2) (q := 2) (pc1 := 16) dX7_lease_15 rfl rfl rfl ?_
    obtain ⟨r13, hc12, h⟩ := gBp_s h
    refine J_callV (As := [.int a1, .int x9]) (ad := ad) (f := 0) (i := 0) (st := [.int a1, .ref (ad 0 0)]) (st1 := [.int r13, .int a1, .ref (ad 0 0)]) (pc1 := 19) (kX7_echoing l D tc sa ad hI a1 x9 μ r13 hc12) wcX7_echoing wlX7_194 eR0 rfl rfl rfl ⟨rfl, rfl, Nat.le_of_ble_eq_true rfl, Nat.le_of_ble_eq_true rfl⟩ ⟨Nat.zero_le _, Nat.zero_le _⟩ (Nat.le_of_ble_eq_true rfl) dX7_lease_16 rfl rfl ?_
    obtain ⟨r15, hc14, h⟩ := gBp_s h
    refine J_callV (As := [.int a1, .int r13]) (ad := ad) (f := 0) (i := 0) (st := []) (st1 := [.int r15]) (pc1 := 22) (kX7_isQuorum l D tc sa ad hI a1 r13 μ r15 hc14) wcX7_isQuorum wlX7_117 eR0 rfl rfl rfl ⟨rfl, rfl, Nat.le_of_ble_eq_true rfl, Nat.le_of_ble_eq_true rfl⟩ ⟨Nat.zero_le _, Nat.zero_le _⟩ (Nat.le_of_ble_eq_true rfl) dX7_lease_19 rfl rfl ?_
    refine J_if_eq (tgt := 30) (pc1 := 25) dX7_lease_22 (by decide) (fun q16 => ?_) rfl (fun q16 => ?_)
    · rw [if_pos q16] at h
      refine J_iinc (i := 2) (q := 2) (v := x9 + (-1)) (lv1 := [(2, .int (x9 + (-1))), (0, .ref (ad 0 0)), (1, .int a1)]) (pc1 := 33) dX7_lease_30 rfl rfl (by decide) rfl rfl ?_
      refine J_goto (tgt := 7) dX7_lease_33 (by decide) ?_
      refine J_sub [1, 2, 0] (lv1 := [(0, .ref (ad 0 0)), (1, .int a1), (2, .int (x9 + (-1)))]) rfl ?_
      exact ihrec10 _ h
    · rw [if_neg q16] at h
      refine J_sub [2] (lv1 := [(2, .int x9)]) rfl ?_
      exact kj8 _ h
def mX7_canAnswer (a1 : Int32) (μ : gM) : Option Int32 :=
  gBp (mX7_lease a1 μ) fun r2 =>
  if r2 ≤ (μ 1 0 0) then
    some 0
  else
    gBp (mX7_of a1 4 μ) fun r5 =>
    gBp (mX7_termAt a1 r5 μ) fun r7 =>
    gBp (mX7_of a1 2 μ) fun r9 =>
    if r7 = r9 then
      some 1
    else
      some 0
set_option maxHeartbeats 4000000 in
set_option maxRecDepth 100000 in
theorem kX7_canAnswer (l : Launch) (D : va_G) (tc : Nat → ClassId) (sa : Nat → Nat) (ad : Nat → Nat → Nat) (hI : gI gE_R ad) (a1 : Int32) (μ : gM) (r : Int32) (h : mX7_canAnswer a1 μ = some r) : gMet l yX7_canAnswer cX7_canAnswer 2 (some .boolean) ({ frames := 6, cells := 0, slots := 0, locals := 136 } : Room) D gE_R gkd_R tc ad grh_R sa [.ref (ad 0 0), .int a1] μ (some (.int r)) μ := by
  refine gMet_of hI ⟨by decide +kernel, Nat.le_of_ble_eq_true rfl⟩ (fun p e s m args below meth c sz hr hlk => ?_)
  unfold mX7_canAnswer at h
  show JR p l e ({ frames := 6, cells := 0, slots := 0, locals := 136 } : Room) s m args below meth c cX7_canAnswer 2 RX7 D tc sa ad sz (some (.int r)) μ μ 0 [(0, .ref (ad 0 0)), (1, .int a1)] []
  refine J_aload_n (i := 0) (q := 0) (pc1 := 1) dX7_canAnswer_0 rfl rfl rfl ?_
  refine J_getR (T := TX7) (f' := 1) (i' := 0) (pc1 := 4) eR0 rfl rfl inX7 1 (by decide) rfl rfl flX7_9 rfl dX7_canAnswer_1 rfl ?_
  refine J_iconst (v := 0) (pc1 := 5) dX7_canAnswer_4 (by decide) rfl ?_
  refine J_iald (ix := 0) (pc1 := 6) (by decide) eR1 rfl (by decide : inb 0 1616) dX7_canAnswer_5 rfl ?_
  refine J_aload_n (i := 0) (q := 0) (pc1 := 7) dX7_canAnswer_6 rfl rfl rfl ?_
  refine J_iload_n (i := 1) (q := 1) (pc1 := 8) dX7_canAnswer_7 rfl rfl rfl ?_
  obtain ⟨r2, hc1, h⟩ := gBp_s h
  refine J_callV (As := [.int a1]) (ad := ad) (f := 0) (i := 0) (st := [.int (μ 1 0 0)]) (st1 := [.int r2, .int (μ 1 0 0)]) (pc1 := 11) (kX7_lease l D tc sa ad hI a1 μ r2 hc1) wcX7_lease wlX7_197 eR0 rfl rfl rfl ⟨rfl, rfl, Nat.le_of_ble_eq_true rfl, Nat.le_of_ble_eq_true rfl⟩ ⟨Nat.zero_le _, Nat.zero_le _⟩ (Nat.le_of_ble_eq_true rfl) dX7_canAnswer_8 rfl rfl ?_
  refine J_icmp_ge (tgt := 38) (pc1 := 14) dX7_canAnswer_11 (by decide) (fun q3 => ?_) rfl (fun q3 => ?_)
  · rw [if_pos q3] at h
    refine J_iconst (v := 0) (pc1 := 39) dX7_canAnswer_38 (by decide) rfl ?_
    cases h
    exact J_zret (by decide) hr hlk dX7_canAnswer_39
  · rw [if_neg q3] at h
    refine J_aload_n (i := 0) (q := 0) (pc1 := 15) dX7_canAnswer_14 rfl rfl rfl ?_
    refine J_iload_n (i := 1) (q := 1) (pc1 := 16) dX7_canAnswer_15 rfl rfl rfl ?_
    refine J_aload_n (i := 0) (q := 0) (pc1 := 17) dX7_canAnswer_16 rfl rfl rfl ?_
    refine J_iload_n (i := 1) (q := 1) (pc1 := 18) dX7_canAnswer_17 rfl rfl rfl ?_
    refine J_iconst (v := 4) (pc1 := 19) dX7_canAnswer_18 (by decide) rfl ?_
    obtain ⟨r5, hc4, h⟩ := gBp_s h
    refine J_callV (As := [.int a1, .int 4]) (ad := ad) (f := 0) (i := 0) (st := [.int a1, .ref (ad 0 0)]) (st1 := [.int r5, .int a1, .ref (ad 0 0)]) (pc1 := 22) (kX7_of l D tc sa ad hI a1 4 μ r5 hc4) wcX7_of wlX7_38 eR0 rfl rfl rfl ⟨rfl, rfl, Nat.le_of_ble_eq_true rfl, Nat.le_of_ble_eq_true rfl⟩ ⟨Nat.zero_le _, Nat.zero_le _⟩ (Nat.le_of_ble_eq_true rfl) dX7_canAnswer_19 rfl rfl ?_
    obtain ⟨r7, hc6, h⟩ := gBp_s h
    refine J_callV (As := [.int a1, .int r5]) (ad := ad) (f := 0) (i := 0) (st := []) (st1 := [.int r7]) (pc1 := 25) (kX7_termAt l D tc sa ad hI a1 r5 μ r7 hc6) wcX7_termAt wlX7_99 eR0 rfl rfl rfl ⟨rfl, rfl, Nat.le_of_ble_eq_true rfl, Nat.le_of_ble_eq_true rfl⟩ ⟨Nat.zero_le _, Nat.zero_le _⟩ (Nat.le_of_ble_eq_true rfl) dX7_canAnswer_22 rfl rfl ?_
    refine J_aload_n (i := 0) (q := 0) (pc1 := 26) dX7_canAnswer_25 rfl rfl rfl ?_
    refine J_iload_n (i := 1) (q := 1) (pc1 := 27) dX7_canAnswer_26 rfl rfl rfl ?_
    refine J_iconst (v := 2) (pc1 := 28) dX7_canAnswer_27 (by decide) rfl ?_
    obtain ⟨r9, hc8, h⟩ := gBp_s h
    refine J_callV (As := [.int a1, .int 2]) (ad := ad) (f := 0) (i := 0) (st := [.int r7]) (st1 := [.int r9, .int r7]) (pc1 := 31) (kX7_of l D tc sa ad hI a1 2 μ r9 hc8) wcX7_of wlX7_38 eR0 rfl rfl rfl ⟨rfl, rfl, Nat.le_of_ble_eq_true rfl, Nat.le_of_ble_eq_true rfl⟩ ⟨Nat.zero_le _, Nat.zero_le _⟩ (Nat.le_of_ble_eq_true rfl) dX7_canAnswer_28 rfl rfl ?_
    refine J_icmp_ne (tgt := 38) (pc1 := 34) dX7_canAnswer_31 (by decide) (fun q10 => ?_) rfl (fun q10 => ?_)
    · rw [if_neg q10] at h
      refine J_iconst (v := 0) (pc1 := 39) dX7_canAnswer_38 (by decide) rfl ?_
      cases h
      exact J_zret (by decide) hr hlk dX7_canAnswer_39
    · rw [if_pos q10] at h
      refine J_iconst (v := 1) (pc1 := 35) dX7_canAnswer_34 (by decide) rfl ?_
      refine J_goto (tgt := 39) dX7_canAnswer_35 (by decide) ?_
      cases h
      exact J_zret (by decide) hr hlk dX7_canAnswer_39
def mX7_read (a1 : Int32) (μ : gM) : Option (Int32 × gM) :=
  gBp (mX7_isNode a1 μ) fun r2 =>
  gLet (α := Int32) (if r2 = 0 then 1 else 0) fun x3 =>
  gBd (mX7_fails 1 x3 μ) fun r8 μ9 =>
  if r8 = 0 then
    gBp (mX7_of a1 1 μ9) fun r12 =>
    gLet (α := Int32) (if r12 = 2 then 0 else 1) fun x13 =>
    gBd (mX7_fails 2 x13 μ9) fun r18 μ19 =>
    if r18 = 0 then
      gBp (mX7_canAnswer a1 μ19) fun r22 =>
      gLet (α := Int32) (if r22 = 0 then 1 else 0) fun x23 =>
      gBd (mX7_fails 3 x23 μ19) fun r28 μ29 =>
      if r28 = 0 then
        gBp (mX7_resultOf a1 μ29) fun r32 =>
        some (r32, μ29)
      else
        some (0, μ29)
    else
      some (0, μ19)
  else
    some (0, μ9)
set_option maxHeartbeats 4000000 in
set_option maxRecDepth 100000 in
theorem kX7_read (l : Launch) (D : va_G) (tc : Nat → ClassId) (sa : Nat → Nat) (ad : Nat → Nat → Nat) (hI : gI gE_R ad) (a1 : Int32) (μ : gM) (r : Int32) (μ' : gM) (h : mX7_read a1 μ = some (r, μ')) : gMet l yX7_read cX7_read 2 (some .int) ({ frames := 7, cells := 0, slots := 0, locals := 157 } : Room) D gE_R gkd_R tc ad grh_R sa [.ref (ad 0 0), .int a1] μ (some (.int r)) μ' := by
  refine gMet_of hI ⟨by decide +kernel, Nat.le_of_ble_eq_true rfl⟩ (fun p e s m args below meth c sz hr hlk => ?_)
  unfold mX7_read at h
  show JR p l e ({ frames := 7, cells := 0, slots := 0, locals := 157 } : Room) s m args below meth c cX7_read 2 RX7 D tc sa ad sz (some (.int r)) μ' μ 0 [(0, .ref (ad 0 0)), (1, .int a1)] []
  refine J_aload_n (i := 0) (q := 0) (pc1 := 1) dX7_read_0 rfl rfl rfl ?_
  refine J_iconst (v := 1) (pc1 := 2) dX7_read_1 (by decide) rfl ?_
  refine J_iload_n (i := 1) (q := 1) (pc1 := 3) dX7_read_2 rfl rfl rfl ?_
  obtain ⟨r2, hc1, h⟩ := gBp_s h
  refine J_callS (As := [.int a1]) (st := [.int 1, .ref (ad 0 0)]) (st1 := [.int r2, .int 1, .ref (ad 0 0)]) (pc1 := 6) (kX7_isNode l D tc sa ad hI a1 μ r2 hc1) wcX7_isNode wlX7_185 rfl ⟨rfl, rfl, Nat.le_of_ble_eq_true rfl, Nat.le_of_ble_eq_true rfl⟩ ⟨Nat.zero_le _, Nat.zero_le _⟩ (Nat.le_of_ble_eq_true rfl) dX7_read_3 rfl rfl ?_
  obtain ⟨x3, e4, h⟩ := gLet_s h
  have k5 : JR p l e ({ frames := 7, cells := 0, slots := 0, locals := 157 } : Room) s m args below meth c cX7_read 2 RX7 D tc sa ad sz (some (.int r)) μ' μ 14 [(0, .ref (ad 0 0)), (1, .int a1)] [.int x3, .int 1, .ref (ad 0 0)] := by
    obtain ⟨r8, μ9, hc7, h⟩ := gBd_s h
    refine J_callV (As := [.int 1, .int x3]) (ad := ad) (f := 0) (i := 0) (st := []) (st1 := [.int r8]) (pc1 := 17) (kX7_fails l D tc sa ad hI 1 x3 μ r8 μ9 hc7) wcX7_fails wlX7_55 eR0 rfl rfl rfl ⟨rfl, rfl, Nat.le_of_ble_eq_true rfl, Nat.le_of_ble_eq_true rfl⟩ ⟨Nat.zero_le _, Nat.zero_le _⟩ (Nat.le_of_ble_eq_true rfl) dX7_read_14 rfl rfl ?_
    refine J_if_ne (tgt := 64) (pc1 := 20) dX7_read_17 (by decide) (fun q10 => ?_) rfl (fun q10 => ?_)
    · rw [if_neg q10] at h
      refine J_iconst (v := 0) (pc1 := 65) dX7_read_64 (by decide) rfl ?_
      cases h
      exact J_iret hr hlk dX7_read_65
    · rw [if_pos q10] at h
      refine J_aload_n (i := 0) (q := 0) (pc1 := 21) dX7_read_20 rfl rfl rfl ?_
      refine J_iconst (v := 2) (pc1 := 22) dX7_read_21 (by decide) rfl ?_
      refine J_aload_n (i := 0) (q := 0) (pc1 := 23) dX7_read_22 rfl rfl rfl ?_
      refine J_iload_n (i := 1) (q := 1) (pc1 := 24) dX7_read_23 rfl rfl rfl ?_
      refine J_iconst (v := 1) (pc1 := 25) dX7_read_24 (by decide) rfl ?_
      obtain ⟨r12, hc11, h⟩ := gBp_s h
      refine J_callV (As := [.int a1, .int 1]) (ad := ad) (f := 0) (i := 0) (st := [.int 2, .ref (ad 0 0)]) (st1 := [.int r12, .int 2, .ref (ad 0 0)]) (pc1 := 28) (kX7_of l D tc sa ad hI a1 1 μ9 r12 hc11) wcX7_of wlX7_38 eR0 rfl rfl rfl ⟨rfl, rfl, Nat.le_of_ble_eq_true rfl, Nat.le_of_ble_eq_true rfl⟩ ⟨Nat.zero_le _, Nat.zero_le _⟩ (Nat.le_of_ble_eq_true rfl) dX7_read_25 rfl rfl ?_
      refine J_iconst (v := 2) (pc1 := 29) dX7_read_28 (by decide) rfl ?_
      obtain ⟨x13, e14, h⟩ := gLet_s h
      have k15 : JR p l e ({ frames := 7, cells := 0, slots := 0, locals := 157 } : Room) s m args below meth c cX7_read 2 RX7 D tc sa ad sz (some (.int r)) μ' μ9 37 [(0, .ref (ad 0 0)), (1, .int a1)] [.int x13, .int 2, .ref (ad 0 0)] := by
        obtain ⟨r18, μ19, hc17, h⟩ := gBd_s h
        refine J_callV (As := [.int 2, .int x13]) (ad := ad) (f := 0) (i := 0) (st := []) (st1 := [.int r18]) (pc1 := 40) (kX7_fails l D tc sa ad hI 2 x13 μ9 r18 μ19 hc17) wcX7_fails wlX7_55 eR0 rfl rfl rfl ⟨rfl, rfl, Nat.le_of_ble_eq_true rfl, Nat.le_of_ble_eq_true rfl⟩ ⟨Nat.zero_le _, Nat.zero_le _⟩ (Nat.le_of_ble_eq_true rfl) dX7_read_37 rfl rfl ?_
        refine J_if_ne (tgt := 64) (pc1 := 43) dX7_read_40 (by decide) (fun q20 => ?_) rfl (fun q20 => ?_)
        · rw [if_neg q20] at h
          refine J_iconst (v := 0) (pc1 := 65) dX7_read_64 (by decide) rfl ?_
          cases h
          exact J_iret hr hlk dX7_read_65
        · rw [if_pos q20] at h
          refine J_aload_n (i := 0) (q := 0) (pc1 := 44) dX7_read_43 rfl rfl rfl ?_
          refine J_iconst (v := 3) (pc1 := 45) dX7_read_44 (by decide) rfl ?_
          refine J_aload_n (i := 0) (q := 0) (pc1 := 46) dX7_read_45 rfl rfl rfl ?_
          refine J_iload_n (i := 1) (q := 1) (pc1 := 47) dX7_read_46 rfl rfl rfl ?_
          obtain ⟨r22, hc21, h⟩ := gBp_s h
          refine J_callV (As := [.int a1]) (ad := ad) (f := 0) (i := 0) (st := [.int 3, .ref (ad 0 0)]) (st1 := [.int r22, .int 3, .ref (ad 0 0)]) (pc1 := 50) (kX7_canAnswer l D tc sa ad hI a1 μ19 r22 hc21) wcX7_canAnswer wlX7_200 eR0 rfl rfl rfl ⟨rfl, rfl, Nat.le_of_ble_eq_true rfl, Nat.le_of_ble_eq_true rfl⟩ ⟨Nat.zero_le _, Nat.zero_le _⟩ (Nat.le_of_ble_eq_true rfl) dX7_read_47 rfl rfl ?_
          obtain ⟨x23, e24, h⟩ := gLet_s h
          have k25 : JR p l e ({ frames := 7, cells := 0, slots := 0, locals := 157 } : Room) s m args below meth c cX7_read 2 RX7 D tc sa ad sz (some (.int r)) μ' μ19 58 [(0, .ref (ad 0 0)), (1, .int a1)] [.int x23, .int 3, .ref (ad 0 0)] := by
            obtain ⟨r28, μ29, hc27, h⟩ := gBd_s h
            refine J_callV (As := [.int 3, .int x23]) (ad := ad) (f := 0) (i := 0) (st := []) (st1 := [.int r28]) (pc1 := 61) (kX7_fails l D tc sa ad hI 3 x23 μ19 r28 μ29 hc27) wcX7_fails wlX7_55 eR0 rfl rfl rfl ⟨rfl, rfl, Nat.le_of_ble_eq_true rfl, Nat.le_of_ble_eq_true rfl⟩ ⟨Nat.zero_le _, Nat.zero_le _⟩ (Nat.le_of_ble_eq_true rfl) dX7_read_58 rfl rfl ?_
            refine J_if_eq (tgt := 66) (pc1 := 64) dX7_read_61 (by decide) (fun q30 => ?_) rfl (fun q30 => ?_)
            · rw [if_pos q30] at h
              refine J_aload_n (i := 0) (q := 0) (pc1 := 67) dX7_read_66 rfl rfl rfl ?_
              refine J_iload_n (i := 1) (q := 1) (pc1 := 68) dX7_read_67 rfl rfl rfl ?_
              obtain ⟨r32, hc31, h⟩ := gBp_s h
              refine J_callV (As := [.int a1]) (ad := ad) (f := 0) (i := 0) (st := []) (st1 := [.int r32]) (pc1 := 71) (kX7_resultOf l D tc sa ad hI a1 μ29 r32 hc31) wcX7_resultOf wlX7_191 eR0 rfl rfl rfl ⟨rfl, rfl, Nat.le_of_ble_eq_true rfl, Nat.le_of_ble_eq_true rfl⟩ ⟨Nat.zero_le _, Nat.zero_le _⟩ (Nat.le_of_ble_eq_true rfl) dX7_read_68 rfl rfl ?_
              cases h
              exact J_iret hr hlk dX7_read_71
            · rw [if_neg q30] at h
              refine J_iconst (v := 0) (pc1 := 65) dX7_read_64 (by decide) rfl ?_
              cases h
              exact J_iret hr hlk dX7_read_65
          refine J_if_ne (tgt := 57) (pc1 := 53) dX7_read_50 (by decide) (fun q26 => ?_) rfl (fun q26 => ?_)
          · rw [if_neg q26] at e24
            subst e24
            refine J_iconst (v := 0) (pc1 := 58) dX7_read_57 (by decide) rfl ?_
            exact k25
          · rw [if_pos q26] at e24
            subst e24
            refine J_iconst (v := 1) (pc1 := 54) dX7_read_53 (by decide) rfl ?_
            refine J_goto (tgt := 58) dX7_read_54 (by decide) ?_
            exact k25
      refine J_icmp_eq (tgt := 36) (pc1 := 32) dX7_read_29 (by decide) (fun q16 => ?_) rfl (fun q16 => ?_)
      · rw [if_pos q16] at e14
        subst e14
        refine J_iconst (v := 0) (pc1 := 37) dX7_read_36 (by decide) rfl ?_
        exact k15
      · rw [if_neg q16] at e14
        subst e14
        refine J_iconst (v := 1) (pc1 := 33) dX7_read_32 (by decide) rfl ?_
        refine J_goto (tgt := 37) dX7_read_33 (by decide) ?_
        exact k15
  refine J_if_ne (tgt := 13) (pc1 := 9) dX7_read_6 (by decide) (fun q6 => ?_) rfl (fun q6 => ?_)
  · rw [if_neg q6] at e4
    subst e4
    refine J_iconst (v := 0) (pc1 := 14) dX7_read_13 (by decide) rfl ?_
    exact k5
  · rw [if_pos q6] at e4
    subst e4
    refine J_iconst (v := 1) (pc1 := 10) dX7_read_9 (by decide) rfl ?_
    refine J_goto (tgt := 14) dX7_read_10 (by decide) ?_
    exact k5
def mX7_node (a1 : Int32) (a2 : Int32) (μ : gM) : Option (Int32 × gM) :=
  gBp (mX7_isNode a1 μ) fun r2 =>
  gLet (α := Int32) (if r2 = 0 then 1 else 0) fun x3 =>
  gBd (mX7_fails 1 x3 μ) fun r8 μ9 =>
  if r8 = 0 then
    gBp (mX7_isBetween a2 0 13 μ9) fun r12 =>
    gLet (α := Int32) (if r12 = 0 then 1 else 0) fun x13 =>
    gBd (mX7_fails 2 x13 μ9) fun r18 μ19 =>
    if r18 = 0 then
      if a2 = 5 then
        gBp (mX7_last a1 μ19) fun r23 =>
        some (r23, μ19)
      else if a2 = 6 then
        gBp (mX7_last a1 μ19) fun r26 =>
        gBp (mX7_termAt a1 r26 μ19) fun r28 =>
        some (r28, μ19)
      else if a2 = 7 then
        gBp (mX7_of a1 7 μ19) fun r31 =>
        some (r31, μ19)
      else if a2 = 8 then
        gBp (mX7_resultOf a1 μ19) fun r34 =>
        some (r34, μ19)
      else if a2 = 9 then
        gBp (mX7_of a1 5 μ19) fun r37 =>
        some (r37, μ19)
      else if a2 = 10 then
        gBp (mX7_configuration a1 μ19) fun r40 =>
        gBp (mX7_oldOf a1 r40 μ19) fun r42 =>
        some (r42, μ19)
      else if a2 = 11 then
        gBp (mX7_configuration a1 μ19) fun r45 =>
        gBp (mX7_newOf a1 r45 μ19) fun r47 =>
        some (r47, μ19)
      else if a2 = 12 then
        gBp (mX7_of a1 1 μ19) fun r50 =>
        if r50 = 2 then
          gBp (mX7_lease a1 μ19) fun r53 =>
          some (r53, μ19)
        else
          some ((-1), μ19)
      else if a2 = 13 then
        gBp (mX7_of a1 1 μ19) fun r56 =>
        if r56 = 1 then
          gBp (mX7_of a1 6 μ19) fun r59 =>
          some (r59, μ19)
        else
          some (0, μ19)
      else 
        gBp (mX7_of a1 a2 μ19) fun r61 =>
        some (r61, μ19)
    else
      some (0, μ19)
  else
    some (0, μ9)
set_option maxHeartbeats 4000000 in
set_option maxRecDepth 100000 in
theorem kX7_node (l : Launch) (D : va_G) (tc : Nat → ClassId) (sa : Nat → Nat) (ad : Nat → Nat → Nat) (hI : gI gE_R ad) (a1 : Int32) (a2 : Int32) (μ : gM) (r : Int32) (μ' : gM) (h : mX7_node a1 a2 μ = some (r, μ')) : gMet l yX7_node cX7_node 3 (some .int) ({ frames := 6, cells := 0, slots := 0, locals := 136 } : Room) D gE_R gkd_R tc ad grh_R sa [.ref (ad 0 0), .int a1, .int a2] μ (some (.int r)) μ' := by
  refine gMet_of hI ⟨by decide +kernel, Nat.le_of_ble_eq_true rfl⟩ (fun p e s m args below meth c sz hr hlk => ?_)
  unfold mX7_node at h
  show JR p l e ({ frames := 6, cells := 0, slots := 0, locals := 136 } : Room) s m args below meth c cX7_node 3 RX7 D tc sa ad sz (some (.int r)) μ' μ 0 [(0, .ref (ad 0 0)), (1, .int a1), (2, .int a2)] []
  refine J_aload_n (i := 0) (q := 0) (pc1 := 1) dX7_node_0 rfl rfl rfl ?_
  refine J_iconst (v := 1) (pc1 := 2) dX7_node_1 (by decide) rfl ?_
  refine J_iload_n (i := 1) (q := 1) (pc1 := 3) dX7_node_2 rfl rfl rfl ?_
  obtain ⟨r2, hc1, h⟩ := gBp_s h
  refine J_callS (As := [.int a1]) (st := [.int 1, .ref (ad 0 0)]) (st1 := [.int r2, .int 1, .ref (ad 0 0)]) (pc1 := 6) (kX7_isNode l D tc sa ad hI a1 μ r2 hc1) wcX7_isNode wlX7_185 rfl ⟨rfl, rfl, Nat.le_of_ble_eq_true rfl, Nat.le_of_ble_eq_true rfl⟩ ⟨Nat.zero_le _, Nat.zero_le _⟩ (Nat.le_of_ble_eq_true rfl) dX7_node_3 rfl rfl ?_
  obtain ⟨x3, e4, h⟩ := gLet_s h
  have k5 : JR p l e ({ frames := 6, cells := 0, slots := 0, locals := 136 } : Room) s m args below meth c cX7_node 3 RX7 D tc sa ad sz (some (.int r)) μ' μ 14 [(0, .ref (ad 0 0)), (1, .int a1), (2, .int a2)] [.int x3, .int 1, .ref (ad 0 0)] := by
    obtain ⟨r8, μ9, hc7, h⟩ := gBd_s h
    refine J_callV (As := [.int 1, .int x3]) (ad := ad) (f := 0) (i := 0) (st := []) (st1 := [.int r8]) (pc1 := 17) (kX7_fails l D tc sa ad hI 1 x3 μ r8 μ9 hc7) wcX7_fails wlX7_55 eR0 rfl rfl rfl ⟨rfl, rfl, Nat.le_of_ble_eq_true rfl, Nat.le_of_ble_eq_true rfl⟩ ⟨Nat.zero_le _, Nat.zero_le _⟩ (Nat.le_of_ble_eq_true rfl) dX7_node_14 rfl rfl ?_
    refine J_if_ne (tgt := 43) (pc1 := 20) dX7_node_17 (by decide) (fun q10 => ?_) rfl (fun q10 => ?_)
    · rw [if_neg q10] at h
      refine J_iconst (v := 0) (pc1 := 44) dX7_node_43 (by decide) rfl ?_
      cases h
      exact J_iret hr hlk dX7_node_44
    · rw [if_pos q10] at h
      refine J_aload_n (i := 0) (q := 0) (pc1 := 21) dX7_node_20 rfl rfl rfl ?_
      refine J_iconst (v := 2) (pc1 := 22) dX7_node_21 (by decide) rfl ?_
      refine J_iload_n (i := 2) (q := 2) (pc1 := 23) dX7_node_22 rfl rfl rfl ?_
      refine J_iconst (v := 0) (pc1 := 24) dX7_node_23 (by decide) rfl ?_
      refine J_bipush (v := 13) (pc1 := 26) dX7_node_24 (by decide) rfl ?_
      obtain ⟨r12, hc11, h⟩ := gBp_s h
      refine J_callS (As := [.int a2, .int 0, .int 13]) (st := [.int 2, .ref (ad 0 0)]) (st1 := [.int r12, .int 2, .ref (ad 0 0)]) (pc1 := 29) (kX7_isBetween l D tc sa ad hI a2 0 13 μ9 r12 hc11) wcX7_isBetween wlX7_34 rfl ⟨rfl, rfl, Nat.le_of_ble_eq_true rfl, Nat.le_of_ble_eq_true rfl⟩ ⟨Nat.zero_le _, Nat.zero_le _⟩ (Nat.le_of_ble_eq_true rfl) dX7_node_26 rfl rfl ?_
      obtain ⟨x13, e14, h⟩ := gLet_s h
      have k15 : JR p l e ({ frames := 6, cells := 0, slots := 0, locals := 136 } : Room) s m args below meth c cX7_node 3 RX7 D tc sa ad sz (some (.int r)) μ' μ9 37 [(0, .ref (ad 0 0)), (1, .int a1), (2, .int a2)] [.int x13, .int 2, .ref (ad 0 0)] := by
        obtain ⟨r18, μ19, hc17, h⟩ := gBd_s h
        refine J_callV (As := [.int 2, .int x13]) (ad := ad) (f := 0) (i := 0) (st := []) (st1 := [.int r18]) (pc1 := 40) (kX7_fails l D tc sa ad hI 2 x13 μ9 r18 μ19 hc17) wcX7_fails wlX7_55 eR0 rfl rfl rfl ⟨rfl, rfl, Nat.le_of_ble_eq_true rfl, Nat.le_of_ble_eq_true rfl⟩ ⟨Nat.zero_le _, Nat.zero_le _⟩ (Nat.le_of_ble_eq_true rfl) dX7_node_37 rfl rfl ?_
        refine J_if_eq (tgt := 45) (pc1 := 43) dX7_node_40 (by decide) (fun q20 => ?_) rfl (fun q20 => ?_)
        · rw [if_pos q20] at h
          refine J_iload_n (i := 2) (q := 2) (pc1 := 46) dX7_node_45 rfl rfl rfl ?_
          by_cases q21 : a2 = 5
          · rw [if_pos q21] at h
            refine J_swIn (v := 5) (off := 50) (tgt := 96) dX7_node_46 q21 (by decide) ?_
            refine J_aload_n (i := 0) (q := 0) (pc1 := 97) dX7_node_96 rfl rfl rfl ?_
            refine J_iload_n (i := 1) (q := 1) (pc1 := 98) dX7_node_97 rfl rfl rfl ?_
            obtain ⟨r23, hc22, h⟩ := gBp_s h
            refine J_callV (As := [.int a1]) (ad := ad) (f := 0) (i := 0) (st := []) (st1 := [.int r23]) (pc1 := 101) (kX7_last l D tc sa ad hI a1 μ19 r23 hc22) wcX7_last wlX7_67 eR0 rfl rfl rfl ⟨rfl, rfl, Nat.le_of_ble_eq_true rfl, Nat.le_of_ble_eq_true rfl⟩ ⟨Nat.zero_le _, Nat.zero_le _⟩ (Nat.le_of_ble_eq_true rfl) dX7_node_98 rfl rfl ?_
            cases h
            exact J_iret hr hlk dX7_node_101
          rw [if_neg q21] at h
          by_cases q24 : a2 = 6
          · rw [if_pos q24] at h
            refine J_swIn (v := 6) (off := 56) (tgt := 102) dX7_node_46 q24 (by decide) ?_
            refine J_aload_n (i := 0) (q := 0) (pc1 := 103) dX7_node_102 rfl rfl rfl ?_
            refine J_iload_n (i := 1) (q := 1) (pc1 := 104) dX7_node_103 rfl rfl rfl ?_
            refine J_aload_n (i := 0) (q := 0) (pc1 := 105) dX7_node_104 rfl rfl rfl ?_
            refine J_iload_n (i := 1) (q := 1) (pc1 := 106) dX7_node_105 rfl rfl rfl ?_
            obtain ⟨r26, hc25, h⟩ := gBp_s h
            refine J_callV (As := [.int a1]) (ad := ad) (f := 0) (i := 0) (st := [.int a1, .ref (ad 0 0)]) (st1 := [.int r26, .int a1, .ref (ad 0 0)]) (pc1 := 109) (kX7_last l D tc sa ad hI a1 μ19 r26 hc25) wcX7_last wlX7_67 eR0 rfl rfl rfl ⟨rfl, rfl, Nat.le_of_ble_eq_true rfl, Nat.le_of_ble_eq_true rfl⟩ ⟨Nat.zero_le _, Nat.zero_le _⟩ (Nat.le_of_ble_eq_true rfl) dX7_node_106 rfl rfl ?_
            obtain ⟨r28, hc27, h⟩ := gBp_s h
            refine J_callV (As := [.int a1, .int r26]) (ad := ad) (f := 0) (i := 0) (st := []) (st1 := [.int r28]) (pc1 := 112) (kX7_termAt l D tc sa ad hI a1 r26 μ19 r28 hc27) wcX7_termAt wlX7_99 eR0 rfl rfl rfl ⟨rfl, rfl, Nat.le_of_ble_eq_true rfl, Nat.le_of_ble_eq_true rfl⟩ ⟨Nat.zero_le _, Nat.zero_le _⟩ (Nat.le_of_ble_eq_true rfl) dX7_node_109 rfl rfl ?_
            cases h
            exact J_iret hr hlk dX7_node_112
          rw [if_neg q24] at h
          by_cases q29 : a2 = 7
          · rw [if_pos q29] at h
            refine J_swIn (v := 7) (off := 67) (tgt := 113) dX7_node_46 q29 (by decide) ?_
            refine J_aload_n (i := 0) (q := 0) (pc1 := 114) dX7_node_113 rfl rfl rfl ?_
            refine J_iload_n (i := 1) (q := 1) (pc1 := 115) dX7_node_114 rfl rfl rfl ?_
            refine J_bipush (v := 7) (pc1 := 117) dX7_node_115 (by decide) rfl ?_
            obtain ⟨r31, hc30, h⟩ := gBp_s h
            refine J_callV (As := [.int a1, .int 7]) (ad := ad) (f := 0) (i := 0) (st := []) (st1 := [.int r31]) (pc1 := 120) (kX7_of l D tc sa ad hI a1 7 μ19 r31 hc30) wcX7_of wlX7_38 eR0 rfl rfl rfl ⟨rfl, rfl, Nat.le_of_ble_eq_true rfl, Nat.le_of_ble_eq_true rfl⟩ ⟨Nat.zero_le _, Nat.zero_le _⟩ (Nat.le_of_ble_eq_true rfl) dX7_node_117 rfl rfl ?_
            cases h
            exact J_iret hr hlk dX7_node_120
          rw [if_neg q29] at h
          by_cases q32 : a2 = 8
          · rw [if_pos q32] at h
            refine J_swIn (v := 8) (off := 75) (tgt := 121) dX7_node_46 q32 (by decide) ?_
            refine J_aload_n (i := 0) (q := 0) (pc1 := 122) dX7_node_121 rfl rfl rfl ?_
            refine J_iload_n (i := 1) (q := 1) (pc1 := 123) dX7_node_122 rfl rfl rfl ?_
            obtain ⟨r34, hc33, h⟩ := gBp_s h
            refine J_callV (As := [.int a1]) (ad := ad) (f := 0) (i := 0) (st := []) (st1 := [.int r34]) (pc1 := 126) (kX7_resultOf l D tc sa ad hI a1 μ19 r34 hc33) wcX7_resultOf wlX7_191 eR0 rfl rfl rfl ⟨rfl, rfl, Nat.le_of_ble_eq_true rfl, Nat.le_of_ble_eq_true rfl⟩ ⟨Nat.zero_le _, Nat.zero_le _⟩ (Nat.le_of_ble_eq_true rfl) dX7_node_123 rfl rfl ?_
            cases h
            exact J_iret hr hlk dX7_node_126
          rw [if_neg q32] at h
          by_cases q35 : a2 = 9
          · rw [if_pos q35] at h
            refine J_swIn (v := 9) (off := 81) (tgt := 127) dX7_node_46 q35 (by decide) ?_
            refine J_aload_n (i := 0) (q := 0) (pc1 := 128) dX7_node_127 rfl rfl rfl ?_
            refine J_iload_n (i := 1) (q := 1) (pc1 := 129) dX7_node_128 rfl rfl rfl ?_
            refine J_iconst (v := 5) (pc1 := 130) dX7_node_129 (by decide) rfl ?_
            obtain ⟨r37, hc36, h⟩ := gBp_s h
            refine J_callV (As := [.int a1, .int 5]) (ad := ad) (f := 0) (i := 0) (st := []) (st1 := [.int r37]) (pc1 := 133) (kX7_of l D tc sa ad hI a1 5 μ19 r37 hc36) wcX7_of wlX7_38 eR0 rfl rfl rfl ⟨rfl, rfl, Nat.le_of_ble_eq_true rfl, Nat.le_of_ble_eq_true rfl⟩ ⟨Nat.zero_le _, Nat.zero_le _⟩ (Nat.le_of_ble_eq_true rfl) dX7_node_130 rfl rfl ?_
            cases h
            exact J_iret hr hlk dX7_node_133
          rw [if_neg q35] at h
          by_cases q38 : a2 = 10
          · rw [if_pos q38] at h
            refine J_swIn (v := 10) (off := 88) (tgt := 134) dX7_node_46 q38 (by decide) ?_
            refine J_aload_n (i := 0) (q := 0) (pc1 := 135) dX7_node_134 rfl rfl rfl ?_
            refine J_iload_n (i := 1) (q := 1) (pc1 := 136) dX7_node_135 rfl rfl rfl ?_
            refine J_aload_n (i := 0) (q := 0) (pc1 := 137) dX7_node_136 rfl rfl rfl ?_
            refine J_iload_n (i := 1) (q := 1) (pc1 := 138) dX7_node_137 rfl rfl rfl ?_
            obtain ⟨r40, hc39, h⟩ := gBp_s h
            refine J_callV (As := [.int a1]) (ad := ad) (f := 0) (i := 0) (st := [.int a1, .ref (ad 0 0)]) (st1 := [.int r40, .int a1, .ref (ad 0 0)]) (pc1 := 141) (kX7_configuration l D tc sa ad hI a1 μ19 r40 hc39) wcX7_configuration wlX7_73 eR0 rfl rfl rfl ⟨rfl, rfl, Nat.le_of_ble_eq_true rfl, Nat.le_of_ble_eq_true rfl⟩ ⟨Nat.zero_le _, Nat.zero_le _⟩ (Nat.le_of_ble_eq_true rfl) dX7_node_138 rfl rfl ?_
            obtain ⟨r42, hc41, h⟩ := gBp_s h
            refine J_callV (As := [.int a1, .int r40]) (ad := ad) (f := 0) (i := 0) (st := []) (st1 := [.int r42]) (pc1 := 144) (kX7_oldOf l D tc sa ad hI a1 r40 μ19 r42 hc41) wcX7_oldOf wlX7_76 eR0 rfl rfl rfl ⟨rfl, rfl, Nat.le_of_ble_eq_true rfl, Nat.le_of_ble_eq_true rfl⟩ ⟨Nat.zero_le _, Nat.zero_le _⟩ (Nat.le_of_ble_eq_true rfl) dX7_node_141 rfl rfl ?_
            cases h
            exact J_iret hr hlk dX7_node_144
          rw [if_neg q38] at h
          by_cases q43 : a2 = 11
          · rw [if_pos q43] at h
            refine J_swIn (v := 11) (off := 99) (tgt := 145) dX7_node_46 q43 (by decide) ?_
            refine J_aload_n (i := 0) (q := 0) (pc1 := 146) dX7_node_145 rfl rfl rfl ?_
            refine J_iload_n (i := 1) (q := 1) (pc1 := 147) dX7_node_146 rfl rfl rfl ?_
            refine J_aload_n (i := 0) (q := 0) (pc1 := 148) dX7_node_147 rfl rfl rfl ?_
            refine J_iload_n (i := 1) (q := 1) (pc1 := 149) dX7_node_148 rfl rfl rfl ?_
            obtain ⟨r45, hc44, h⟩ := gBp_s h
            refine J_callV (As := [.int a1]) (ad := ad) (f := 0) (i := 0) (st := [.int a1, .ref (ad 0 0)]) (st1 := [.int r45, .int a1, .ref (ad 0 0)]) (pc1 := 152) (kX7_configuration l D tc sa ad hI a1 μ19 r45 hc44) wcX7_configuration wlX7_73 eR0 rfl rfl rfl ⟨rfl, rfl, Nat.le_of_ble_eq_true rfl, Nat.le_of_ble_eq_true rfl⟩ ⟨Nat.zero_le _, Nat.zero_le _⟩ (Nat.le_of_ble_eq_true rfl) dX7_node_149 rfl rfl ?_
            obtain ⟨r47, hc46, h⟩ := gBp_s h
            refine J_callV (As := [.int a1, .int r45]) (ad := ad) (f := 0) (i := 0) (st := []) (st1 := [.int r47]) (pc1 := 155) (kX7_newOf l D tc sa ad hI a1 r45 μ19 r47 hc46) wcX7_newOf wlX7_79 eR0 rfl rfl rfl ⟨rfl, rfl, Nat.le_of_ble_eq_true rfl, Nat.le_of_ble_eq_true rfl⟩ ⟨Nat.zero_le _, Nat.zero_le _⟩ (Nat.le_of_ble_eq_true rfl) dX7_node_152 rfl rfl ?_
            cases h
            exact J_iret hr hlk dX7_node_155
          rw [if_neg q43] at h
          by_cases q48 : a2 = 12
          · rw [if_pos q48] at h
            refine J_swIn (v := 12) (off := 110) (tgt := 156) dX7_node_46 q48 (by decide) ?_
            refine J_aload_n (i := 0) (q := 0) (pc1 := 157) dX7_node_156 rfl rfl rfl ?_
            refine J_iload_n (i := 1) (q := 1) (pc1 := 158) dX7_node_157 rfl rfl rfl ?_
            refine J_iconst (v := 1) (pc1 := 159) dX7_node_158 (by decide) rfl ?_
            obtain ⟨r50, hc49, h⟩ := gBp_s h
            refine J_callV (As := [.int a1, .int 1]) (ad := ad) (f := 0) (i := 0) (st := []) (st1 := [.int r50]) (pc1 := 162) (kX7_of l D tc sa ad hI a1 1 μ19 r50 hc49) wcX7_of wlX7_38 eR0 rfl rfl rfl ⟨rfl, rfl, Nat.le_of_ble_eq_true rfl, Nat.le_of_ble_eq_true rfl⟩ ⟨Nat.zero_le _, Nat.zero_le _⟩ (Nat.le_of_ble_eq_true rfl) dX7_node_159 rfl rfl ?_
            refine J_iconst (v := 2) (pc1 := 163) dX7_node_162 (by decide) rfl ?_
            refine J_icmp_ne (tgt := 174) (pc1 := 166) dX7_node_163 (by decide) (fun q51 => ?_) rfl (fun q51 => ?_)
            · rw [if_neg q51] at h
              refine J_iconst (v := (-1)) (pc1 := 175) dX7_node_174 (by decide) rfl ?_
              cases h
              exact J_iret hr hlk dX7_node_175
            · rw [if_pos q51] at h
              refine J_aload_n (i := 0) (q := 0) (pc1 := 167) dX7_node_166 rfl rfl rfl ?_
              refine J_iload_n (i := 1) (q := 1) (pc1 := 168) dX7_node_167 rfl rfl rfl ?_
              obtain ⟨r53, hc52, h⟩ := gBp_s h
              refine J_callV (As := [.int a1]) (ad := ad) (f := 0) (i := 0) (st := []) (st1 := [.int r53]) (pc1 := 171) (kX7_lease l D tc sa ad hI a1 μ19 r53 hc52) wcX7_lease wlX7_197 eR0 rfl rfl rfl ⟨rfl, rfl, Nat.le_of_ble_eq_true rfl, Nat.le_of_ble_eq_true rfl⟩ ⟨Nat.zero_le _, Nat.zero_le _⟩ (Nat.le_of_ble_eq_true rfl) dX7_node_168 rfl rfl ?_
              refine J_goto (tgt := 175) dX7_node_171 (by decide) ?_
              cases h
              exact J_iret hr hlk dX7_node_175
          rw [if_neg q48] at h
          by_cases q54 : a2 = 13
          · rw [if_pos q54] at h
            refine J_swIn (v := 13) (off := 130) (tgt := 176) dX7_node_46 q54 (by decide) ?_
            refine J_aload_n (i := 0) (q := 0) (pc1 := 177) dX7_node_176 rfl rfl rfl ?_
            refine J_iload_n (i := 1) (q := 1) (pc1 := 178) dX7_node_177 rfl rfl rfl ?_
            refine J_iconst (v := 1) (pc1 := 179) dX7_node_178 (by decide) rfl ?_
            obtain ⟨r56, hc55, h⟩ := gBp_s h
            refine J_callV (As := [.int a1, .int 1]) (ad := ad) (f := 0) (i := 0) (st := []) (st1 := [.int r56]) (pc1 := 182) (kX7_of l D tc sa ad hI a1 1 μ19 r56 hc55) wcX7_of wlX7_38 eR0 rfl rfl rfl ⟨rfl, rfl, Nat.le_of_ble_eq_true rfl, Nat.le_of_ble_eq_true rfl⟩ ⟨Nat.zero_le _, Nat.zero_le _⟩ (Nat.le_of_ble_eq_true rfl) dX7_node_179 rfl rfl ?_
            refine J_iconst (v := 1) (pc1 := 183) dX7_node_182 (by decide) rfl ?_
            refine J_icmp_ne (tgt := 196) (pc1 := 186) dX7_node_183 (by decide) (fun q57 => ?_) rfl (fun q57 => ?_)
            · rw [if_neg q57] at h
              refine J_iconst (v := 0) (pc1 := 197) dX7_node_196 (by decide) rfl ?_
              cases h
              exact J_iret hr hlk dX7_node_197
            · rw [if_pos q57] at h
              refine J_aload_n (i := 0) (q := 0) (pc1 := 187) dX7_node_186 rfl rfl rfl ?_
              refine J_iload_n (i := 1) (q := 1) (pc1 := 188) dX7_node_187 rfl rfl rfl ?_
              refine J_bipush (v := 6) (pc1 := 190) dX7_node_188 (by decide) rfl ?_
              obtain ⟨r59, hc58, h⟩ := gBp_s h
              refine J_callV (As := [.int a1, .int 6]) (ad := ad) (f := 0) (i := 0) (st := []) (st1 := [.int r59]) (pc1 := 193) (kX7_of l D tc sa ad hI a1 6 μ19 r59 hc58) wcX7_of wlX7_38 eR0 rfl rfl rfl ⟨rfl, rfl, Nat.le_of_ble_eq_true rfl, Nat.le_of_ble_eq_true rfl⟩ ⟨Nat.zero_le _, Nat.zero_le _⟩ (Nat.le_of_ble_eq_true rfl) dX7_node_190 rfl rfl ?_
              refine J_goto (tgt := 197) dX7_node_193 (by decide) ?_
              cases h
              exact J_iret hr hlk dX7_node_197
          rw [if_neg q54] at h
          refine J_swOut (tgt := 198) dX7_node_46 (by have := i32_ne (k := 5) q21 (by decide); have := i32_ne (k := 6) q24 (by decide); have := i32_ne (k := 7) q29 (by decide); have := i32_ne (k := 8) q32 (by decide); have := i32_ne (k := 9) q35 (by decide); have := i32_ne (k := 10) q38 (by decide); have := i32_ne (k := 11) q43 (by decide); have := i32_ne (k := 12) q48 (by decide); have := i32_ne (k := 13) q54 (by decide); omega) (by decide) ?_
          refine J_aload_n (i := 0) (q := 0) (pc1 := 199) dX7_node_198 rfl rfl rfl ?_
          refine J_iload_n (i := 1) (q := 1) (pc1 := 200) dX7_node_199 rfl rfl rfl ?_
          refine J_iload_n (i := 2) (q := 2) (pc1 := 201) dX7_node_200 rfl rfl rfl ?_
          obtain ⟨r61, hc60, h⟩ := gBp_s h
          refine J_callV (As := [.int a1, .int a2]) (ad := ad) (f := 0) (i := 0) (st := []) (st1 := [.int r61]) (pc1 := 204) (kX7_of l D tc sa ad hI a1 a2 μ19 r61 hc60) wcX7_of wlX7_38 eR0 rfl rfl rfl ⟨rfl, rfl, Nat.le_of_ble_eq_true rfl, Nat.le_of_ble_eq_true rfl⟩ ⟨Nat.zero_le _, Nat.zero_le _⟩ (Nat.le_of_ble_eq_true rfl) dX7_node_201 rfl rfl ?_
          cases h
          exact J_iret hr hlk dX7_node_204
        · rw [if_neg q20] at h
          refine J_iconst (v := 0) (pc1 := 44) dX7_node_43 (by decide) rfl ?_
          cases h
          exact J_iret hr hlk dX7_node_44
      refine J_if_ne (tgt := 36) (pc1 := 32) dX7_node_29 (by decide) (fun q16 => ?_) rfl (fun q16 => ?_)
      · rw [if_neg q16] at e14
        subst e14
        refine J_iconst (v := 0) (pc1 := 37) dX7_node_36 (by decide) rfl ?_
        exact k15
      · rw [if_pos q16] at e14
        subst e14
        refine J_iconst (v := 1) (pc1 := 33) dX7_node_32 (by decide) rfl ?_
        refine J_goto (tgt := 37) dX7_node_33 (by decide) ?_
        exact k15
  refine J_if_ne (tgt := 13) (pc1 := 9) dX7_node_6 (by decide) (fun q6 => ?_) rfl (fun q6 => ?_)
  · rw [if_neg q6] at e4
    subst e4
    refine J_iconst (v := 0) (pc1 := 14) dX7_node_13 (by decide) rfl ?_
    exact k5
  · rw [if_pos q6] at e4
    subst e4
    refine J_iconst (v := 1) (pc1 := 10) dX7_node_9 (by decide) rfl ?_
    refine J_goto (tgt := 14) dX7_node_10 (by decide) ?_
    exact k5
def mX7_noted (a1 : Int32) (a2 : Int32) (a3 : Int32) (μ : gM) : Option (Int32 × gM) :=
  gBp (mX7_isNode a1 μ) fun r2 =>
  gJon (fun (x3 : Int32) =>
      gBd (mX7_fails 1 x3 μ) fun r6 μ7 =>
      if r6 = 0 then
        gJon (fun (x9 : Int32) =>
            gBd (mX7_fails 2 x9 μ7) fun r12 μ13 =>
            if r12 = 0 then
              gBp (mX7_of a1 1 μ13) fun r16 =>
              gLet (α := Int32) (if r16 = 2 then 0 else 1) fun x17 =>
              gBd (mX7_fails 3 x17 μ13) fun r22 μ23 =>
              if r22 = 0 then
                gJon (fun (x25 : Int32) =>
                    gBp (mX7_of a1 (x25 + a2) μ23) fun r28 =>
                    some (r28, μ23)) fun j26 =>
                if a3 = 0 then
                  j26 13
                else
                  if a3 = 1 then
                    j26 18
                  else
                    j26 23
              else
                some (0, μ23)
            else
              some (0, μ13)) fun j10 =>
        gJon (fun (u32 : Unit) =>
            j10 1) fun j31 =>
        if a1 = a2 then
          j31 () 
        else
          gBp (mX7_isBetween a3 0 2 μ7) fun r35 =>
          gLet (α := Int32) (if r35 = 0 then 1 else 0) fun x36 =>
          gBd (mX7_fails 2 x36 μ7) fun r41 μ42 =>
          if r41 = 0 then
            gBp (mX7_of a1 1 μ42) fun r45 =>
            gLet (α := Int32) (if r45 = 2 then 0 else 1) fun x46 =>
            gBd (mX7_fails 3 x46 μ42) fun r51 μ52 =>
            if r51 = 0 then
              gJon (fun (x54 : Int32) =>
                  gBp (mX7_of a1 (x54 + a2) μ52) fun r57 =>
                  some (r57, μ52)) fun j55 =>
              if a3 = 0 then
                j55 13
              else
                if a3 = 1 then
                  j55 18
                else
                  j55 23
            else
              some (0, μ52)
          else
            some (0, μ42)
      else
        some (0, μ7)) fun j4 =>
  gJon (fun (u61 : Unit) =>
      j4 1) fun j60 =>
  if r2 = 0 then
    j60 () 
  else
    gBp (mX7_isNode a2 μ) fun r64 =>
    gLet (α := Int32) (if r64 = 0 then 1 else 0) fun x65 =>
    gBd (mX7_fails 1 x65 μ) fun r70 μ71 =>
    if r70 = 0 then
      gJon (fun (x73 : Int32) =>
          gBd (mX7_fails 2 x73 μ71) fun r76 μ77 =>
          if r76 = 0 then
            gBp (mX7_of a1 1 μ77) fun r80 =>
            gLet (α := Int32) (if r80 = 2 then 0 else 1) fun x81 =>
            gBd (mX7_fails 3 x81 μ77) fun r86 μ87 =>
            if r86 = 0 then
              gJon (fun (x89 : Int32) =>
                  gBp (mX7_of a1 (x89 + a2) μ87) fun r92 =>
                  some (r92, μ87)) fun j90 =>
              if a3 = 0 then
                j90 13
              else
                if a3 = 1 then
                  j90 18
                else
                  j90 23
            else
              some (0, μ87)
          else
            some (0, μ77)) fun j74 =>
      gJon (fun (u96 : Unit) =>
          j74 1) fun j95 =>
      if a1 = a2 then
        j95 () 
      else
        gBp (mX7_isBetween a3 0 2 μ71) fun r99 =>
        gLet (α := Int32) (if r99 = 0 then 1 else 0) fun x100 =>
        gBd (mX7_fails 2 x100 μ71) fun r105 μ106 =>
        if r105 = 0 then
          gBp (mX7_of a1 1 μ106) fun r109 =>
          gLet (α := Int32) (if r109 = 2 then 0 else 1) fun x110 =>
          gBd (mX7_fails 3 x110 μ106) fun r115 μ116 =>
          if r115 = 0 then
            gJon (fun (x118 : Int32) =>
                gBp (mX7_of a1 (x118 + a2) μ116) fun r121 =>
                some (r121, μ116)) fun j119 =>
            if a3 = 0 then
              j119 13
            else
              if a3 = 1 then
                j119 18
              else
                j119 23
          else
            some (0, μ116)
        else
          some (0, μ106)
    else
      some (0, μ71)
set_option maxHeartbeats 4000000 in
set_option maxRecDepth 100000 in
theorem kX7_noted (l : Launch) (D : va_G) (tc : Nat → ClassId) (sa : Nat → Nat) (ad : Nat → Nat → Nat) (hI : gI gE_R ad) (a1 : Int32) (a2 : Int32) (a3 : Int32) (μ : gM) (r : Int32) (μ' : gM) (h : mX7_noted a1 a2 a3 μ = some (r, μ')) : gMet l yX7_noted cX7_noted 4 (some .int) ({ frames := 2, cells := 0, slots := 0, locals := 42 } : Room) D gE_R gkd_R tc ad grh_R sa [.ref (ad 0 0), .int a1, .int a2, .int a3] μ (some (.int r)) μ' := by
  refine gMet_of hI ⟨by decide +kernel, Nat.le_of_ble_eq_true rfl⟩ (fun p e s m args below meth c sz hr hlk => ?_)
  unfold mX7_noted at h
  show JR p l e ({ frames := 2, cells := 0, slots := 0, locals := 42 } : Room) s m args below meth c cX7_noted 4 RX7 D tc sa ad sz (some (.int r)) μ' μ 0 [(0, .ref (ad 0 0)), (1, .int a1), (2, .int a2), (3, .int a3)] []
  refine J_aload_n (i := 0) (q := 0) (pc1 := 1) dX7_noted_0 rfl rfl rfl ?_
  refine J_iconst (v := 1) (pc1 := 2) dX7_noted_1 (by decide) rfl ?_
  refine J_iload_n (i := 1) (q := 1) (pc1 := 3) dX7_noted_2 rfl rfl rfl ?_
  obtain ⟨r2, hc1, h⟩ := gBp_s h
  refine J_callS (As := [.int a1]) (st := [.int 1, .ref (ad 0 0)]) (st1 := [.int r2, .int 1, .ref (ad 0 0)]) (pc1 := 6) (kX7_isNode l D tc sa ad hI a1 μ r2 hc1) wcX7_isNode wlX7_185 rfl ⟨rfl, rfl, Nat.le_of_ble_eq_true rfl, Nat.le_of_ble_eq_true rfl⟩ ⟨Nat.zero_le _, Nat.zero_le _⟩ (Nat.le_of_ble_eq_true rfl) dX7_noted_3 rfl rfl ?_
  obtain ⟨j4, ej4, h⟩ := gJon_s h
  have kj4 : ∀ (x3 : Int32), j4 x3 = some (r, μ') → JR p l e ({ frames := 2, cells := 0, slots := 0, locals := 42 } : Room) s m args below meth c cX7_noted 4 RX7 D tc sa ad sz (some (.int r)) μ' μ 21 [(0, .ref (ad 0 0)), (1, .int a1), (2, .int a2), (3, .int a3)] [.int x3, .int 1, .ref (ad 0 0)] := by
    intro x3 h
    rw [ej4] at h
    try dsimp only at h
    obtain ⟨r6, μ7, hc5, h⟩ := gBd_s h
    refine J_callV (As := [.int 1, .int x3]) (ad := ad) (f := 0) (i := 0) (st := []) (st1 := [.int r6]) (pc1 := 24) (kX7_fails l D tc sa ad hI 1 x3 μ r6 μ7 hc5) wcX7_fails wlX7_55 eR0 rfl rfl rfl ⟨rfl, rfl, Nat.le_of_ble_eq_true rfl, Nat.le_of_ble_eq_true rfl⟩ ⟨Nat.zero_le _, Nat.zero_le _⟩ (Nat.le_of_ble_eq_true rfl) dX7_noted_21 rfl rfl ?_
    refine J_if_ne (tgt := 77) (pc1 := 27) dX7_noted_24 (by decide) (fun q8 => ?_) rfl (fun q8 => ?_)
    · rw [if_neg q8] at h
      refine J_iconst (v := 0) (pc1 := 78) dX7_noted_77 (by decide) rfl ?_
      cases h
      exact J_iret hr hlk dX7_noted_78
    · rw [if_pos q8] at h
      refine J_aload_n (i := 0) (q := 0) (pc1 := 28) dX7_noted_27 rfl rfl rfl ?_
      refine J_iconst (v := 2) (pc1 := 29) dX7_noted_28 (by decide) rfl ?_
      refine J_iload_n (i := 1) (q := 1) (pc1 := 30) dX7_noted_29 rfl rfl rfl ?_
      refine J_iload_n (i := 2) (q := 2) (pc1 := 31) dX7_noted_30 rfl rfl rfl ?_
      obtain ⟨j10, ej10, h⟩ := gJon_s h
      have kj10 : ∀ (x9 : Int32), j10 x9 = some (r, μ') → JR p l e ({ frames := 2, cells := 0, slots := 0, locals := 42 } : Room) s m args below meth c cX7_noted 4 RX7 D tc sa ad sz (some (.int r)) μ' μ7 48 [(0, .ref (ad 0 0)), (1, .int a1), (2, .int a2), (3, .int a3)] [.int x9, .int 2, .ref (ad 0 0)] := by
        intro x9 h
        rw [ej10] at h
        try dsimp only at h
        obtain ⟨r12, μ13, hc11, h⟩ := gBd_s h
        refine J_callV (As := [.int 2, .int x9]) (ad := ad) (f := 0) (i := 0) (st := []) (st1 := [.int r12]) (pc1 := 51) (kX7_fails l D tc sa ad hI 2 x9 μ7 r12 μ13 hc11) wcX7_fails wlX7_55 eR0 rfl rfl rfl ⟨rfl, rfl, Nat.le_of_ble_eq_true rfl, Nat.le_of_ble_eq_true rfl⟩ ⟨Nat.zero_le _, Nat.zero_le _⟩ (Nat.le_of_ble_eq_true rfl) dX7_noted_48 rfl rfl ?_
        refine J_if_ne (tgt := 77) (pc1 := 54) dX7_noted_51 (by decide) (fun q14 => ?_) rfl (fun q14 => ?_)
        · rw [if_neg q14] at h
          refine J_iconst (v := 0) (pc1 := 78) dX7_noted_77 (by decide) rfl ?_
          cases h
          exact J_iret hr hlk dX7_noted_78
        · rw [if_pos q14] at h
          refine J_aload_n (i := 0) (q := 0) (pc1 := 55) dX7_noted_54 rfl rfl rfl ?_
          refine J_iconst (v := 3) (pc1 := 56) dX7_noted_55 (by decide) rfl ?_
          refine J_aload_n (i := 0) (q := 0) (pc1 := 57) dX7_noted_56 rfl rfl rfl ?_
          refine J_iload_n (i := 1) (q := 1) (pc1 := 58) dX7_noted_57 rfl rfl rfl ?_
          refine J_iconst (v := 1) (pc1 := 59) dX7_noted_58 (by decide) rfl ?_
          obtain ⟨r16, hc15, h⟩ := gBp_s h
          refine J_callV (As := [.int a1, .int 1]) (ad := ad) (f := 0) (i := 0) (st := [.int 3, .ref (ad 0 0)]) (st1 := [.int r16, .int 3, .ref (ad 0 0)]) (pc1 := 62) (kX7_of l D tc sa ad hI a1 1 μ13 r16 hc15) wcX7_of wlX7_38 eR0 rfl rfl rfl ⟨rfl, rfl, Nat.le_of_ble_eq_true rfl, Nat.le_of_ble_eq_true rfl⟩ ⟨Nat.zero_le _, Nat.zero_le _⟩ (Nat.le_of_ble_eq_true rfl) dX7_noted_59 rfl rfl ?_
          refine J_iconst (v := 2) (pc1 := 63) dX7_noted_62 (by decide) rfl ?_
          obtain ⟨x17, e18, h⟩ := gLet_s h
          have k19 : JR p l e ({ frames := 2, cells := 0, slots := 0, locals := 42 } : Room) s m args below meth c cX7_noted 4 RX7 D tc sa ad sz (some (.int r)) μ' μ13 71 [(0, .ref (ad 0 0)), (1, .int a1), (2, .int a2), (3, .int a3)] [.int x17, .int 3, .ref (ad 0 0)] := by
            obtain ⟨r22, μ23, hc21, h⟩ := gBd_s h
            refine J_callV (As := [.int 3, .int x17]) (ad := ad) (f := 0) (i := 0) (st := []) (st1 := [.int r22]) (pc1 := 74) (kX7_fails l D tc sa ad hI 3 x17 μ13 r22 μ23 hc21) wcX7_fails wlX7_55 eR0 rfl rfl rfl ⟨rfl, rfl, Nat.le_of_ble_eq_true rfl, Nat.le_of_ble_eq_true rfl⟩ ⟨Nat.zero_le _, Nat.zero_le _⟩ (Nat.le_of_ble_eq_true rfl) dX7_noted_71 rfl rfl ?_
            refine J_if_eq (tgt := 79) (pc1 := 77) dX7_noted_74 (by decide) (fun q24 => ?_) rfl (fun q24 => ?_)
            · rw [if_pos q24] at h
              refine J_aload_n (i := 0) (q := 0) (pc1 := 80) dX7_noted_79 rfl rfl rfl ?_
              refine J_iload_n (i := 1) (q := 1) (pc1 := 81) dX7_noted_80 rfl rfl rfl ?_
              refine J_iload_n (i := 3) (q := 3) (pc1 := 82) dX7_noted_81 rfl rfl rfl ?_
              obtain ⟨j26, ej26, h⟩ := gJon_s h
              have kj26 : ∀ (x25 : Int32), j26 x25 = some (r, μ') → JR p l e ({ frames := 2, cells := 0, slots := 0, locals := 42 } : Room) s m args below meth c cX7_noted 4 RX7 D tc sa ad sz (some (.int r)) μ' μ23 102 [(2, .int a2)] [.int x25, .int a1, .ref (ad 0 0)] := by
                intro x25 h
                rw [ej26] at h
                try dsimp only at h
                refine J_iload_n (i := 2) (q := 0) (pc1 := 103) dX7_noted_102 rfl rfl rfl ?_
                refine J_iadd (pc1 := 104) dX7_noted_103 rfl ?_
                obtain ⟨r28, hc27, h⟩ := gBp_s h
                refine J_callV (As := [.int a1, .int (x25 + a2)]) (ad := ad) (f := 0) (i := 0) (st := []) (st1 := [.int r28]) (pc1 := 107) (kX7_of l D tc sa ad hI a1 (x25 + a2) μ23 r28 hc27) wcX7_of wlX7_38 eR0 rfl rfl rfl ⟨rfl, rfl, Nat.le_of_ble_eq_true rfl, Nat.le_of_ble_eq_true rfl⟩ ⟨Nat.zero_le _, Nat.zero_le _⟩ (Nat.le_of_ble_eq_true rfl) dX7_noted_104 rfl rfl ?_
                cases h
                exact J_iret hr hlk dX7_noted_107
              clear ej26
              refine J_if_ne (tgt := 90) (pc1 := 85) dX7_noted_82 (by decide) (fun q29 => ?_) rfl (fun q29 => ?_)
              · rw [if_neg q29] at h
                refine J_iload_n (i := 3) (q := 3) (pc1 := 91) dX7_noted_90 rfl rfl rfl ?_
                refine J_iconst (v := 1) (pc1 := 92) dX7_noted_91 (by decide) rfl ?_
                refine J_icmp_ne (tgt := 100) (pc1 := 95) dX7_noted_92 (by decide) (fun q30 => ?_) rfl (fun q30 => ?_)
                · rw [if_neg q30] at h
                  refine J_bipush (v := 23) (pc1 := 102) dX7_noted_100 (by decide) rfl ?_
                  refine J_sub [2] (lv1 := [(2, .int a2)]) rfl ?_
                  exact kj26 _ h
                · rw [if_pos q30] at h
                  refine J_bipush (v := 18) (pc1 := 97) dX7_noted_95 (by decide) rfl ?_
                  refine J_goto (tgt := 102) dX7_noted_97 (by decide) ?_
                  refine J_sub [2] (lv1 := [(2, .int a2)]) rfl ?_
                  exact kj26 _ h
              · rw [if_pos q29] at h
                refine J_bipush (v := 13) (pc1 := 87) dX7_noted_85 (by decide) rfl ?_
                refine J_goto (tgt := 102) dX7_noted_87 (by decide) ?_
                refine J_sub [2] (lv1 := [(2, .int a2)]) rfl ?_
                exact kj26 _ h
            · rw [if_neg q24] at h
              refine J_iconst (v := 0) (pc1 := 78) dX7_noted_77 (by decide) rfl ?_
              cases h
              exact J_iret hr hlk dX7_noted_78
          refine J_icmp_eq (tgt := 70) (pc1 := 66) dX7_noted_63 (by decide) (fun q20 => ?_) rfl (fun q20 => ?_)
          · rw [if_pos q20] at e18
            subst e18
            refine J_iconst (v := 0) (pc1 := 71) dX7_noted_70 (by decide) rfl ?_
            exact k19
          · rw [if_neg q20] at e18
            subst e18
            refine J_iconst (v := 1) (pc1 := 67) dX7_noted_66 (by decide) rfl ?_
            refine J_goto (tgt := 71) dX7_noted_67 (by decide) ?_
            exact k19
      clear ej10
      obtain ⟨j31, ej31, h⟩ := gJon_s h
      have kj31 : ∀ (u32 : Unit), j31 u32 = some (r, μ') → JR p l e ({ frames := 2, cells := 0, slots := 0, locals := 42 } : Room) s m args below meth c cX7_noted 4 RX7 D tc sa ad sz (some (.int r)) μ' μ7 43 [(0, .ref (ad 0 0)), (1, .int a1), (2, .int a2), (3, .int a3)] [.int 2, .ref (ad 0 0)] := by
        intro u32 h
        rw [ej31] at h
        try dsimp only at h
        refine J_iconst (v := 1) (pc1 := 44) dX7_noted_43 (by decide) rfl ?_
        refine J_goto (tgt := 48) dX7_noted_44 (by decide) ?_
        exact kj10 _ h
      clear ej31
      refine J_icmp_eq (tgt := 43) (pc1 := 34) dX7_noted_31 (by decide) (fun q33 => ?_) rfl (fun q33 => ?_)
      · rw [if_pos q33] at h
        exact kj31 ()  h
      · rw [if_neg q33] at h
        refine J_iload_n (i := 3) (q := 3) (pc1 := 35) dX7_noted_34 rfl rfl rfl ?_
        refine J_iconst (v := 0) (pc1 := 36) dX7_noted_35 (by decide) rfl ?_
        refine J_iconst (v := 2) (pc1 := 37) dX7_noted_36 (by decide) rfl ?_
        obtain ⟨r35, hc34, h⟩ := gBp_s h
        refine J_callS (As := [.int a3, .int 0, .int 2]) (st := [.int 2, .ref (ad 0 0)]) (st1 := [.int r35, .int 2, .ref (ad 0 0)]) (pc1 := 40) (kX7_isBetween l D tc sa ad hI a3 0 2 μ7 r35 hc34) wcX7_isBetween wlX7_34 rfl ⟨rfl, rfl, Nat.le_of_ble_eq_true rfl, Nat.le_of_ble_eq_true rfl⟩ ⟨Nat.zero_le _, Nat.zero_le _⟩ (Nat.le_of_ble_eq_true rfl) dX7_noted_37 rfl rfl ?_
        obtain ⟨x36, e37, h⟩ := gLet_s h
        have k38 : JR p l e ({ frames := 2, cells := 0, slots := 0, locals := 42 } : Room) s m args below meth c cX7_noted 4 RX7 D tc sa ad sz (some (.int r)) μ' μ7 48 [(0, .ref (ad 0 0)), (1, .int a1), (2, .int a2), (3, .int a3)] [.int x36, .int 2, .ref (ad 0 0)] := by
          obtain ⟨r41, μ42, hc40, h⟩ := gBd_s h
          refine J_callV (As := [.int 2, .int x36]) (ad := ad) (f := 0) (i := 0) (st := []) (st1 := [.int r41]) (pc1 := 51) (kX7_fails l D tc sa ad hI 2 x36 μ7 r41 μ42 hc40) wcX7_fails wlX7_55 eR0 rfl rfl rfl ⟨rfl, rfl, Nat.le_of_ble_eq_true rfl, Nat.le_of_ble_eq_true rfl⟩ ⟨Nat.zero_le _, Nat.zero_le _⟩ (Nat.le_of_ble_eq_true rfl) dX7_noted_48 rfl rfl ?_
          refine J_if_ne (tgt := 77) (pc1 := 54) dX7_noted_51 (by decide) (fun q43 => ?_) rfl (fun q43 => ?_)
          · rw [if_neg q43] at h
            refine J_iconst (v := 0) (pc1 := 78) dX7_noted_77 (by decide) rfl ?_
            cases h
            exact J_iret hr hlk dX7_noted_78
          · rw [if_pos q43] at h
            refine J_aload_n (i := 0) (q := 0) (pc1 := 55) dX7_noted_54 rfl rfl rfl ?_
            refine J_iconst (v := 3) (pc1 := 56) dX7_noted_55 (by decide) rfl ?_
            refine J_aload_n (i := 0) (q := 0) (pc1 := 57) dX7_noted_56 rfl rfl rfl ?_
            refine J_iload_n (i := 1) (q := 1) (pc1 := 58) dX7_noted_57 rfl rfl rfl ?_
            refine J_iconst (v := 1) (pc1 := 59) dX7_noted_58 (by decide) rfl ?_
            obtain ⟨r45, hc44, h⟩ := gBp_s h
            refine J_callV (As := [.int a1, .int 1]) (ad := ad) (f := 0) (i := 0) (st := [.int 3, .ref (ad 0 0)]) (st1 := [.int r45, .int 3, .ref (ad 0 0)]) (pc1 := 62) (kX7_of l D tc sa ad hI a1 1 μ42 r45 hc44) wcX7_of wlX7_38 eR0 rfl rfl rfl ⟨rfl, rfl, Nat.le_of_ble_eq_true rfl, Nat.le_of_ble_eq_true rfl⟩ ⟨Nat.zero_le _, Nat.zero_le _⟩ (Nat.le_of_ble_eq_true rfl) dX7_noted_59 rfl rfl ?_
            refine J_iconst (v := 2) (pc1 := 63) dX7_noted_62 (by decide) rfl ?_
            obtain ⟨x46, e47, h⟩ := gLet_s h
            have k48 : JR p l e ({ frames := 2, cells := 0, slots := 0, locals := 42 } : Room) s m args below meth c cX7_noted 4 RX7 D tc sa ad sz (some (.int r)) μ' μ42 71 [(0, .ref (ad 0 0)), (1, .int a1), (2, .int a2), (3, .int a3)] [.int x46, .int 3, .ref (ad 0 0)] := by
              obtain ⟨r51, μ52, hc50, h⟩ := gBd_s h
              refine J_callV (As := [.int 3, .int x46]) (ad := ad) (f := 0) (i := 0) (st := []) (st1 := [.int r51]) (pc1 := 74) (kX7_fails l D tc sa ad hI 3 x46 μ42 r51 μ52 hc50) wcX7_fails wlX7_55 eR0 rfl rfl rfl ⟨rfl, rfl, Nat.le_of_ble_eq_true rfl, Nat.le_of_ble_eq_true rfl⟩ ⟨Nat.zero_le _, Nat.zero_le _⟩ (Nat.le_of_ble_eq_true rfl) dX7_noted_71 rfl rfl ?_
              refine J_if_eq (tgt := 79) (pc1 := 77) dX7_noted_74 (by decide) (fun q53 => ?_) rfl (fun q53 => ?_)
              · rw [if_pos q53] at h
                refine J_aload_n (i := 0) (q := 0) (pc1 := 80) dX7_noted_79 rfl rfl rfl ?_
                refine J_iload_n (i := 1) (q := 1) (pc1 := 81) dX7_noted_80 rfl rfl rfl ?_
                refine J_iload_n (i := 3) (q := 3) (pc1 := 82) dX7_noted_81 rfl rfl rfl ?_
                obtain ⟨j55, ej55, h⟩ := gJon_s h
                have kj55 : ∀ (x54 : Int32), j55 x54 = some (r, μ') → JR p l e ({ frames := 2, cells := 0, slots := 0, locals := 42 } : Room) s m args below meth c cX7_noted 4 RX7 D tc sa ad sz (some (.int r)) μ' μ52 102 [(2, .int a2)] [.int x54, .int a1, .ref (ad 0 0)] := by
                  intro x54 h
                  rw [ej55] at h
                  try dsimp only at h
                  refine J_iload_n (i := 2) (q := 0) (pc1 := 103) dX7_noted_102 rfl rfl rfl ?_
                  refine J_iadd (pc1 := 104) dX7_noted_103 rfl ?_
                  obtain ⟨r57, hc56, h⟩ := gBp_s h
                  refine J_callV (As := [.int a1, .int (x54 + a2)]) (ad := ad) (f := 0) (i := 0) (st := []) (st1 := [.int r57]) (pc1 := 107) (kX7_of l D tc sa ad hI a1 (x54 + a2) μ52 r57 hc56) wcX7_of wlX7_38 eR0 rfl rfl rfl ⟨rfl, rfl, Nat.le_of_ble_eq_true rfl, Nat.le_of_ble_eq_true rfl⟩ ⟨Nat.zero_le _, Nat.zero_le _⟩ (Nat.le_of_ble_eq_true rfl) dX7_noted_104 rfl rfl ?_
                  cases h
                  exact J_iret hr hlk dX7_noted_107
                clear ej55
                refine J_if_ne (tgt := 90) (pc1 := 85) dX7_noted_82 (by decide) (fun q58 => ?_) rfl (fun q58 => ?_)
                · rw [if_neg q58] at h
                  refine J_iload_n (i := 3) (q := 3) (pc1 := 91) dX7_noted_90 rfl rfl rfl ?_
                  refine J_iconst (v := 1) (pc1 := 92) dX7_noted_91 (by decide) rfl ?_
                  refine J_icmp_ne (tgt := 100) (pc1 := 95) dX7_noted_92 (by decide) (fun q59 => ?_) rfl (fun q59 => ?_)
                  · rw [if_neg q59] at h
                    refine J_bipush (v := 23) (pc1 := 102) dX7_noted_100 (by decide) rfl ?_
                    refine J_sub [2] (lv1 := [(2, .int a2)]) rfl ?_
                    exact kj55 _ h
                  · rw [if_pos q59] at h
                    refine J_bipush (v := 18) (pc1 := 97) dX7_noted_95 (by decide) rfl ?_
                    refine J_goto (tgt := 102) dX7_noted_97 (by decide) ?_
                    refine J_sub [2] (lv1 := [(2, .int a2)]) rfl ?_
                    exact kj55 _ h
                · rw [if_pos q58] at h
                  refine J_bipush (v := 13) (pc1 := 87) dX7_noted_85 (by decide) rfl ?_
                  refine J_goto (tgt := 102) dX7_noted_87 (by decide) ?_
                  refine J_sub [2] (lv1 := [(2, .int a2)]) rfl ?_
                  exact kj55 _ h
              · rw [if_neg q53] at h
                refine J_iconst (v := 0) (pc1 := 78) dX7_noted_77 (by decide) rfl ?_
                cases h
                exact J_iret hr hlk dX7_noted_78
            refine J_icmp_eq (tgt := 70) (pc1 := 66) dX7_noted_63 (by decide) (fun q49 => ?_) rfl (fun q49 => ?_)
            · rw [if_pos q49] at e47
              subst e47
              refine J_iconst (v := 0) (pc1 := 71) dX7_noted_70 (by decide) rfl ?_
              exact k48
            · rw [if_neg q49] at e47
              subst e47
              refine J_iconst (v := 1) (pc1 := 67) dX7_noted_66 (by decide) rfl ?_
              refine J_goto (tgt := 71) dX7_noted_67 (by decide) ?_
              exact k48
        refine J_if_ne (tgt := 47) (pc1 := 43) dX7_noted_40 (by decide) (fun q39 => ?_) rfl (fun q39 => ?_)
        · rw [if_neg q39] at e37
          subst e37
          refine J_iconst (v := 0) (pc1 := 48) dX7_noted_47 (by decide) rfl ?_
          exact k38
        · rw [if_pos q39] at e37
          subst e37
          refine J_iconst (v := 1) (pc1 := 44) dX7_noted_43 (by decide) rfl ?_
          refine J_goto (tgt := 48) dX7_noted_44 (by decide) ?_
          exact k38
  clear ej4
  obtain ⟨j60, ej60, h⟩ := gJon_s h
  have kj60 : ∀ (u61 : Unit), j60 u61 = some (r, μ') → JR p l e ({ frames := 2, cells := 0, slots := 0, locals := 42 } : Room) s m args below meth c cX7_noted 4 RX7 D tc sa ad sz (some (.int r)) μ' μ 16 [(0, .ref (ad 0 0)), (1, .int a1), (2, .int a2), (3, .int a3)] [.int 1, .ref (ad 0 0)] := by
    intro u61 h
    rw [ej60] at h
    try dsimp only at h
    refine J_iconst (v := 1) (pc1 := 17) dX7_noted_16 (by decide) rfl ?_
    refine J_goto (tgt := 21) dX7_noted_17 (by decide) ?_
    exact kj4 _ h
  clear ej60
  refine J_if_eq (tgt := 16) (pc1 := 9) dX7_noted_6 (by decide) (fun q62 => ?_) rfl (fun q62 => ?_)
  · rw [if_pos q62] at h
    exact kj60 ()  h
  · rw [if_neg q62] at h
    refine J_iload_n (i := 2) (q := 2) (pc1 := 10) dX7_noted_9 rfl rfl rfl ?_
    obtain ⟨r64, hc63, h⟩ := gBp_s h
    refine J_callS (As := [.int a2]) (st := [.int 1, .ref (ad 0 0)]) (st1 := [.int r64, .int 1, .ref (ad 0 0)]) (pc1 := 13) (kX7_isNode l D tc sa ad hI a2 μ r64 hc63) wcX7_isNode wlX7_185 rfl ⟨rfl, rfl, Nat.le_of_ble_eq_true rfl, Nat.le_of_ble_eq_true rfl⟩ ⟨Nat.zero_le _, Nat.zero_le _⟩ (Nat.le_of_ble_eq_true rfl) dX7_noted_10 rfl rfl ?_
    obtain ⟨x65, e66, h⟩ := gLet_s h
    have k67 : JR p l e ({ frames := 2, cells := 0, slots := 0, locals := 42 } : Room) s m args below meth c cX7_noted 4 RX7 D tc sa ad sz (some (.int r)) μ' μ 21 [(0, .ref (ad 0 0)), (1, .int a1), (2, .int a2), (3, .int a3)] [.int x65, .int 1, .ref (ad 0 0)] := by
      obtain ⟨r70, μ71, hc69, h⟩ := gBd_s h
      refine J_callV (As := [.int 1, .int x65]) (ad := ad) (f := 0) (i := 0) (st := []) (st1 := [.int r70]) (pc1 := 24) (kX7_fails l D tc sa ad hI 1 x65 μ r70 μ71 hc69) wcX7_fails wlX7_55 eR0 rfl rfl rfl ⟨rfl, rfl, Nat.le_of_ble_eq_true rfl, Nat.le_of_ble_eq_true rfl⟩ ⟨Nat.zero_le _, Nat.zero_le _⟩ (Nat.le_of_ble_eq_true rfl) dX7_noted_21 rfl rfl ?_
      refine J_if_ne (tgt := 77) (pc1 := 27) dX7_noted_24 (by decide) (fun q72 => ?_) rfl (fun q72 => ?_)
      · rw [if_neg q72] at h
        refine J_iconst (v := 0) (pc1 := 78) dX7_noted_77 (by decide) rfl ?_
        cases h
        exact J_iret hr hlk dX7_noted_78
      · rw [if_pos q72] at h
        refine J_aload_n (i := 0) (q := 0) (pc1 := 28) dX7_noted_27 rfl rfl rfl ?_
        refine J_iconst (v := 2) (pc1 := 29) dX7_noted_28 (by decide) rfl ?_
        refine J_iload_n (i := 1) (q := 1) (pc1 := 30) dX7_noted_29 rfl rfl rfl ?_
        refine J_iload_n (i := 2) (q := 2) (pc1 := 31) dX7_noted_30 rfl rfl rfl ?_
        obtain ⟨j74, ej74, h⟩ := gJon_s h
        have kj74 : ∀ (x73 : Int32), j74 x73 = some (r, μ') → JR p l e ({ frames := 2, cells := 0, slots := 0, locals := 42 } : Room) s m args below meth c cX7_noted 4 RX7 D tc sa ad sz (some (.int r)) μ' μ71 48 [(0, .ref (ad 0 0)), (1, .int a1), (2, .int a2), (3, .int a3)] [.int x73, .int 2, .ref (ad 0 0)] := by
          intro x73 h
          rw [ej74] at h
          try dsimp only at h
          obtain ⟨r76, μ77, hc75, h⟩ := gBd_s h
          refine J_callV (As := [.int 2, .int x73]) (ad := ad) (f := 0) (i := 0) (st := []) (st1 := [.int r76]) (pc1 := 51) (kX7_fails l D tc sa ad hI 2 x73 μ71 r76 μ77 hc75) wcX7_fails wlX7_55 eR0 rfl rfl rfl ⟨rfl, rfl, Nat.le_of_ble_eq_true rfl, Nat.le_of_ble_eq_true rfl⟩ ⟨Nat.zero_le _, Nat.zero_le _⟩ (Nat.le_of_ble_eq_true rfl) dX7_noted_48 rfl rfl ?_
          refine J_if_ne (tgt := 77) (pc1 := 54) dX7_noted_51 (by decide) (fun q78 => ?_) rfl (fun q78 => ?_)
          · rw [if_neg q78] at h
            refine J_iconst (v := 0) (pc1 := 78) dX7_noted_77 (by decide) rfl ?_
            cases h
            exact J_iret hr hlk dX7_noted_78
          · rw [if_pos q78] at h
            refine J_aload_n (i := 0) (q := 0) (pc1 := 55) dX7_noted_54 rfl rfl rfl ?_
            refine J_iconst (v := 3) (pc1 := 56) dX7_noted_55 (by decide) rfl ?_
            refine J_aload_n (i := 0) (q := 0) (pc1 := 57) dX7_noted_56 rfl rfl rfl ?_
            refine J_iload_n (i := 1) (q := 1) (pc1 := 58) dX7_noted_57 rfl rfl rfl ?_
            refine J_iconst (v := 1) (pc1 := 59) dX7_noted_58 (by decide) rfl ?_
            obtain ⟨r80, hc79, h⟩ := gBp_s h
            refine J_callV (As := [.int a1, .int 1]) (ad := ad) (f := 0) (i := 0) (st := [.int 3, .ref (ad 0 0)]) (st1 := [.int r80, .int 3, .ref (ad 0 0)]) (pc1 := 62) (kX7_of l D tc sa ad hI a1 1 μ77 r80 hc79) wcX7_of wlX7_38 eR0 rfl rfl rfl ⟨rfl, rfl, Nat.le_of_ble_eq_true rfl, Nat.le_of_ble_eq_true rfl⟩ ⟨Nat.zero_le _, Nat.zero_le _⟩ (Nat.le_of_ble_eq_true rfl) dX7_noted_59 rfl rfl ?_
            refine J_iconst (v := 2) (pc1 := 63) dX7_noted_62 (by decide) rfl ?_
            obtain ⟨x81, e82, h⟩ := gLet_s h
            have k83 : JR p l e ({ frames := 2, cells := 0, slots := 0, locals := 42 } : Room) s m args below meth c cX7_noted 4 RX7 D tc sa ad sz (some (.int r)) μ' μ77 71 [(0, .ref (ad 0 0)), (1, .int a1), (2, .int a2), (3, .int a3)] [.int x81, .int 3, .ref (ad 0 0)] := by
              obtain ⟨r86, μ87, hc85, h⟩ := gBd_s h
              refine J_callV (As := [.int 3, .int x81]) (ad := ad) (f := 0) (i := 0) (st := []) (st1 := [.int r86]) (pc1 := 74) (kX7_fails l D tc sa ad hI 3 x81 μ77 r86 μ87 hc85) wcX7_fails wlX7_55 eR0 rfl rfl rfl ⟨rfl, rfl, Nat.le_of_ble_eq_true rfl, Nat.le_of_ble_eq_true rfl⟩ ⟨Nat.zero_le _, Nat.zero_le _⟩ (Nat.le_of_ble_eq_true rfl) dX7_noted_71 rfl rfl ?_
              refine J_if_eq (tgt := 79) (pc1 := 77) dX7_noted_74 (by decide) (fun q88 => ?_) rfl (fun q88 => ?_)
              · rw [if_pos q88] at h
                refine J_aload_n (i := 0) (q := 0) (pc1 := 80) dX7_noted_79 rfl rfl rfl ?_
                refine J_iload_n (i := 1) (q := 1) (pc1 := 81) dX7_noted_80 rfl rfl rfl ?_
                refine J_iload_n (i := 3) (q := 3) (pc1 := 82) dX7_noted_81 rfl rfl rfl ?_
                obtain ⟨j90, ej90, h⟩ := gJon_s h
                have kj90 : ∀ (x89 : Int32), j90 x89 = some (r, μ') → JR p l e ({ frames := 2, cells := 0, slots := 0, locals := 42 } : Room) s m args below meth c cX7_noted 4 RX7 D tc sa ad sz (some (.int r)) μ' μ87 102 [(2, .int a2)] [.int x89, .int a1, .ref (ad 0 0)] := by
                  intro x89 h
                  rw [ej90] at h
                  try dsimp only at h
                  refine J_iload_n (i := 2) (q := 0) (pc1 := 103) dX7_noted_102 rfl rfl rfl ?_
                  refine J_iadd (pc1 := 104) dX7_noted_103 rfl ?_
                  obtain ⟨r92, hc91, h⟩ := gBp_s h
                  refine J_callV (As := [.int a1, .int (x89 + a2)]) (ad := ad) (f := 0) (i := 0) (st := []) (st1 := [.int r92]) (pc1 := 107) (kX7_of l D tc sa ad hI a1 (x89 + a2) μ87 r92 hc91) wcX7_of wlX7_38 eR0 rfl rfl rfl ⟨rfl, rfl, Nat.le_of_ble_eq_true rfl, Nat.le_of_ble_eq_true rfl⟩ ⟨Nat.zero_le _, Nat.zero_le _⟩ (Nat.le_of_ble_eq_true rfl) dX7_noted_104 rfl rfl ?_
                  cases h
                  exact J_iret hr hlk dX7_noted_107
                clear ej90
                refine J_if_ne (tgt := 90) (pc1 := 85) dX7_noted_82 (by decide) (fun q93 => ?_) rfl (fun q93 => ?_)
                · rw [if_neg q93] at h
                  refine J_iload_n (i := 3) (q := 3) (pc1 := 91) dX7_noted_90 rfl rfl rfl ?_
                  refine J_iconst (v := 1) (pc1 := 92) dX7_noted_91 (by decide) rfl ?_
                  refine J_icmp_ne (tgt := 100) (pc1 := 95) dX7_noted_92 (by decide) (fun q94 => ?_) rfl (fun q94 => ?_)
                  · rw [if_neg q94] at h
                    refine J_bipush (v := 23) (pc1 := 102) dX7_noted_100 (by decide) rfl ?_
                    refine J_sub [2] (lv1 := [(2, .int a2)]) rfl ?_
                    exact kj90 _ h
                  · rw [if_pos q94] at h
                    refine J_bipush (v := 18) (pc1 := 97) dX7_noted_95 (by decide) rfl ?_
                    refine J_goto (tgt := 102) dX7_noted_97 (by decide) ?_
                    refine J_sub [2] (lv1 := [(2, .int a2)]) rfl ?_
                    exact kj90 _ h
                · rw [if_pos q93] at h
                  refine J_bipush (v := 13) (pc1 := 87) dX7_noted_85 (by decide) rfl ?_
                  refine J_goto (tgt := 102) dX7_noted_87 (by decide) ?_
                  refine J_sub [2] (lv1 := [(2, .int a2)]) rfl ?_
                  exact kj90 _ h
              · rw [if_neg q88] at h
                refine J_iconst (v := 0) (pc1 := 78) dX7_noted_77 (by decide) rfl ?_
                cases h
                exact J_iret hr hlk dX7_noted_78
            refine J_icmp_eq (tgt := 70) (pc1 := 66) dX7_noted_63 (by decide) (fun q84 => ?_) rfl (fun q84 => ?_)
            · rw [if_pos q84] at e82
              subst e82
              refine J_iconst (v := 0) (pc1 := 71) dX7_noted_70 (by decide) rfl ?_
              exact k83
            · rw [if_neg q84] at e82
              subst e82
              refine J_iconst (v := 1) (pc1 := 67) dX7_noted_66 (by decide) rfl ?_
              refine J_goto (tgt := 71) dX7_noted_67 (by decide) ?_
              exact k83
        clear ej74
        obtain ⟨j95, ej95, h⟩ := gJon_s h
        have kj95 : ∀ (u96 : Unit), j95 u96 = some (r, μ') → JR p l e ({ frames := 2, cells := 0, slots := 0, locals := 42 } : Room) s m args below meth c cX7_noted 4 RX7 D tc sa ad sz (some (.int r)) μ' μ71 43 [(0, .ref (ad 0 0)), (1, .int a1), (2, .int a2), (3, .int a3)] [.int 2, .ref (ad 0 0)] := by
          intro u96 h
          rw [ej95] at h
          try dsimp only at h
          refine J_iconst (v := 1) (pc1 := 44) dX7_noted_43 (by decide) rfl ?_
          refine J_goto (tgt := 48) dX7_noted_44 (by decide) ?_
          exact kj74 _ h
        clear ej95
        refine J_icmp_eq (tgt := 43) (pc1 := 34) dX7_noted_31 (by decide) (fun q97 => ?_) rfl (fun q97 => ?_)
        · rw [if_pos q97] at h
          exact kj95 ()  h
        · rw [if_neg q97] at h
          refine J_iload_n (i := 3) (q := 3) (pc1 := 35) dX7_noted_34 rfl rfl rfl ?_
          refine J_iconst (v := 0) (pc1 := 36) dX7_noted_35 (by decide) rfl ?_
          refine J_iconst (v := 2) (pc1 := 37) dX7_noted_36 (by decide) rfl ?_
          obtain ⟨r99, hc98, h⟩ := gBp_s h
          refine J_callS (As := [.int a3, .int 0, .int 2]) (st := [.int 2, .ref (ad 0 0)]) (st1 := [.int r99, .int 2, .ref (ad 0 0)]) (pc1 := 40) (kX7_isBetween l D tc sa ad hI a3 0 2 μ71 r99 hc98) wcX7_isBetween wlX7_34 rfl ⟨rfl, rfl, Nat.le_of_ble_eq_true rfl, Nat.le_of_ble_eq_true rfl⟩ ⟨Nat.zero_le _, Nat.zero_le _⟩ (Nat.le_of_ble_eq_true rfl) dX7_noted_37 rfl rfl ?_
          obtain ⟨x100, e101, h⟩ := gLet_s h
          have k102 : JR p l e ({ frames := 2, cells := 0, slots := 0, locals := 42 } : Room) s m args below meth c cX7_noted 4 RX7 D tc sa ad sz (some (.int r)) μ' μ71 48 [(0, .ref (ad 0 0)), (1, .int a1), (2, .int a2), (3, .int a3)] [.int x100, .int 2, .ref (ad 0 0)] := by
            obtain ⟨r105, μ106, hc104, h⟩ := gBd_s h
            refine J_callV (As := [.int 2, .int x100]) (ad := ad) (f := 0) (i := 0) (st := []) (st1 := [.int r105]) (pc1 := 51) (kX7_fails l D tc sa ad hI 2 x100 μ71 r105 μ106 hc104) wcX7_fails wlX7_55 eR0 rfl rfl rfl ⟨rfl, rfl, Nat.le_of_ble_eq_true rfl, Nat.le_of_ble_eq_true rfl⟩ ⟨Nat.zero_le _, Nat.zero_le _⟩ (Nat.le_of_ble_eq_true rfl) dX7_noted_48 rfl rfl ?_
            refine J_if_ne (tgt := 77) (pc1 := 54) dX7_noted_51 (by decide) (fun q107 => ?_) rfl (fun q107 => ?_)
            · rw [if_neg q107] at h
              refine J_iconst (v := 0) (pc1 := 78) dX7_noted_77 (by decide) rfl ?_
              cases h
              exact J_iret hr hlk dX7_noted_78
            · rw [if_pos q107] at h
              refine J_aload_n (i := 0) (q := 0) (pc1 := 55) dX7_noted_54 rfl rfl rfl ?_
              refine J_iconst (v := 3) (pc1 := 56) dX7_noted_55 (by decide) rfl ?_
              refine J_aload_n (i := 0) (q := 0) (pc1 := 57) dX7_noted_56 rfl rfl rfl ?_
              refine J_iload_n (i := 1) (q := 1) (pc1 := 58) dX7_noted_57 rfl rfl rfl ?_
              refine J_iconst (v := 1) (pc1 := 59) dX7_noted_58 (by decide) rfl ?_
              obtain ⟨r109, hc108, h⟩ := gBp_s h
              refine J_callV (As := [.int a1, .int 1]) (ad := ad) (f := 0) (i := 0) (st := [.int 3, .ref (ad 0 0)]) (st1 := [.int r109, .int 3, .ref (ad 0 0)]) (pc1 := 62) (kX7_of l D tc sa ad hI a1 1 μ106 r109 hc108) wcX7_of wlX7_38 eR0 rfl rfl rfl ⟨rfl, rfl, Nat.le_of_ble_eq_true rfl, Nat.le_of_ble_eq_true rfl⟩ ⟨Nat.zero_le _, Nat.zero_le _⟩ (Nat.le_of_ble_eq_true rfl) dX7_noted_59 rfl rfl ?_
              refine J_iconst (v := 2) (pc1 := 63) dX7_noted_62 (by decide) rfl ?_
              obtain ⟨x110, e111, h⟩ := gLet_s h
              have k112 : JR p l e ({ frames := 2, cells := 0, slots := 0, locals := 42 } : Room) s m args below meth c cX7_noted 4 RX7 D tc sa ad sz (some (.int r)) μ' μ106 71 [(0, .ref (ad 0 0)), (1, .int a1), (2, .int a2), (3, .int a3)] [.int x110, .int 3, .ref (ad 0 0)] := by
                obtain ⟨r115, μ116, hc114, h⟩ := gBd_s h
                refine J_callV (As := [.int 3, .int x110]) (ad := ad) (f := 0) (i := 0) (st := []) (st1 := [.int r115]) (pc1 := 74) (kX7_fails l D tc sa ad hI 3 x110 μ106 r115 μ116 hc114) wcX7_fails wlX7_55 eR0 rfl rfl rfl ⟨rfl, rfl, Nat.le_of_ble_eq_true rfl, Nat.le_of_ble_eq_true rfl⟩ ⟨Nat.zero_le _, Nat.zero_le _⟩ (Nat.le_of_ble_eq_true rfl) dX7_noted_71 rfl rfl ?_
                refine J_if_eq (tgt := 79) (pc1 := 77) dX7_noted_74 (by decide) (fun q117 => ?_) rfl (fun q117 => ?_)
                · rw [if_pos q117] at h
                  refine J_aload_n (i := 0) (q := 0) (pc1 := 80) dX7_noted_79 rfl rfl rfl ?_
                  refine J_iload_n (i := 1) (q := 1) (pc1 := 81) dX7_noted_80 rfl rfl rfl ?_
                  refine J_iload_n (i := 3) (q := 3) (pc1 := 82) dX7_noted_81 rfl rfl rfl ?_
                  obtain ⟨j119, ej119, h⟩ := gJon_s h
                  have kj119 : ∀ (x118 : Int32), j119 x118 = some (r, μ') → JR p l e ({ frames := 2, cells := 0, slots := 0, locals := 42 } : Room) s m args below meth c cX7_noted 4 RX7 D tc sa ad sz (some (.int r)) μ' μ116 102 [(2, .int a2)] [.int x118, .int a1, .ref (ad 0 0)] := by
                    intro x118 h
                    rw [ej119] at h
                    try dsimp only at h
                    refine J_iload_n (i := 2) (q := 0) (pc1 := 103) dX7_noted_102 rfl rfl rfl ?_
                    refine J_iadd (pc1 := 104) dX7_noted_103 rfl ?_
                    obtain ⟨r121, hc120, h⟩ := gBp_s h
                    refine J_callV (As := [.int a1, .int (x118 + a2)]) (ad := ad) (f := 0) (i := 0) (st := []) (st1 := [.int r121]) (pc1 := 107) (kX7_of l D tc sa ad hI a1 (x118 + a2) μ116 r121 hc120) wcX7_of wlX7_38 eR0 rfl rfl rfl ⟨rfl, rfl, Nat.le_of_ble_eq_true rfl, Nat.le_of_ble_eq_true rfl⟩ ⟨Nat.zero_le _, Nat.zero_le _⟩ (Nat.le_of_ble_eq_true rfl) dX7_noted_104 rfl rfl ?_
                    cases h
                    exact J_iret hr hlk dX7_noted_107
                  clear ej119
                  refine J_if_ne (tgt := 90) (pc1 := 85) dX7_noted_82 (by decide) (fun q122 => ?_) rfl (fun q122 => ?_)
                  · rw [if_neg q122] at h
                    refine J_iload_n (i := 3) (q := 3) (pc1 := 91) dX7_noted_90 rfl rfl rfl ?_
                    refine J_iconst (v := 1) (pc1 := 92) dX7_noted_91 (by decide) rfl ?_
                    refine J_icmp_ne (tgt := 100) (pc1 := 95) dX7_noted_92 (by decide) (fun q123 => ?_) rfl (fun q123 => ?_)
                    · rw [if_neg q123] at h
                      refine J_bipush (v := 23) (pc1 := 102) dX7_noted_100 (by decide) rfl ?_
                      refine J_sub [2] (lv1 := [(2, .int a2)]) rfl ?_
                      exact kj119 _ h
                    · rw [if_pos q123] at h
                      refine J_bipush (v := 18) (pc1 := 97) dX7_noted_95 (by decide) rfl ?_
                      refine J_goto (tgt := 102) dX7_noted_97 (by decide) ?_
                      refine J_sub [2] (lv1 := [(2, .int a2)]) rfl ?_
                      exact kj119 _ h
                  · rw [if_pos q122] at h
                    refine J_bipush (v := 13) (pc1 := 87) dX7_noted_85 (by decide) rfl ?_
                    refine J_goto (tgt := 102) dX7_noted_87 (by decide) ?_
                    refine J_sub [2] (lv1 := [(2, .int a2)]) rfl ?_
                    exact kj119 _ h
                · rw [if_neg q117] at h
                  refine J_iconst (v := 0) (pc1 := 78) dX7_noted_77 (by decide) rfl ?_
                  cases h
                  exact J_iret hr hlk dX7_noted_78
              refine J_icmp_eq (tgt := 70) (pc1 := 66) dX7_noted_63 (by decide) (fun q113 => ?_) rfl (fun q113 => ?_)
              · rw [if_pos q113] at e111
                subst e111
                refine J_iconst (v := 0) (pc1 := 71) dX7_noted_70 (by decide) rfl ?_
                exact k112
              · rw [if_neg q113] at e111
                subst e111
                refine J_iconst (v := 1) (pc1 := 67) dX7_noted_66 (by decide) rfl ?_
                refine J_goto (tgt := 71) dX7_noted_67 (by decide) ?_
                exact k112
          refine J_if_ne (tgt := 47) (pc1 := 43) dX7_noted_40 (by decide) (fun q103 => ?_) rfl (fun q103 => ?_)
          · rw [if_neg q103] at e101
            subst e101
            refine J_iconst (v := 0) (pc1 := 48) dX7_noted_47 (by decide) rfl ?_
            exact k102
          · rw [if_pos q103] at e101
            subst e101
            refine J_iconst (v := 1) (pc1 := 44) dX7_noted_43 (by decide) rfl ?_
            refine J_goto (tgt := 48) dX7_noted_44 (by decide) ?_
            exact k102
    refine J_if_ne (tgt := 20) (pc1 := 16) dX7_noted_13 (by decide) (fun q68 => ?_) rfl (fun q68 => ?_)
    · rw [if_neg q68] at e66
      subst e66
      refine J_iconst (v := 0) (pc1 := 21) dX7_noted_20 (by decide) rfl ?_
      exact k67
    · rw [if_pos q68] at e66
      subst e66
      refine J_iconst (v := 1) (pc1 := 17) dX7_noted_16 (by decide) rfl ?_
      refine J_goto (tgt := 21) dX7_noted_17 (by decide) ?_
      exact k67
def mX7_entry (a1 : Int32) (a2 : Int32) (a3 : Int32) (μ : gM) : Option (Int32 × gM) :=
  gBp (mX7_isNode a1 μ) fun r2 =>
  gJon (fun (x3 : Int32) =>
      gLet (α := Int32) (if x3 = 0 then 1 else 0) fun x5 =>
      gBd (mX7_fails 1 x5 μ) fun r10 μ11 =>
      if r10 = 0 then
        gBp (mX7_isBetween a3 0 2 μ11) fun r14 =>
        gLet (α := Int32) (if r14 = 0 then 1 else 0) fun x15 =>
        gBd (mX7_fails 2 x15 μ11) fun r20 μ21 =>
        if r20 = 0 then
          gBp (mX7_entryOf a1 a2 a3 μ21) fun r24 =>
          some (r24, μ21)
        else
          some (0, μ21)
      else
        some (0, μ11)) fun j4 =>
  gJon (fun (u26 : Unit) =>
      j4 0) fun j25 =>
  if r2 = 0 then
    j25 () 
  else
    gBp (mX7_of a1 7 μ) fun r29 =>
    gBp (mX7_last a1 μ) fun r31 =>
    gBp (mX7_isBetween a2 (r29 + 1) r31 μ) fun r33 =>
    gLet (α := Int32) (if r33 = 0 then 0 else 1) fun x34 =>
    gLet (α := Int32) (if x34 = 0 then 1 else 0) fun x38 =>
    gBd (mX7_fails 1 x38 μ) fun r43 μ44 =>
    if r43 = 0 then
      gBp (mX7_isBetween a3 0 2 μ44) fun r47 =>
      gLet (α := Int32) (if r47 = 0 then 1 else 0) fun x48 =>
      gBd (mX7_fails 2 x48 μ44) fun r53 μ54 =>
      if r53 = 0 then
        gBp (mX7_entryOf a1 a2 a3 μ54) fun r57 =>
        some (r57, μ54)
      else
        some (0, μ54)
    else
      some (0, μ44)
set_option maxHeartbeats 4000000 in
set_option maxRecDepth 100000 in
theorem kX7_entry (l : Launch) (D : va_G) (tc : Nat → ClassId) (sa : Nat → Nat) (ad : Nat → Nat → Nat) (hI : gI gE_R ad) (a1 : Int32) (a2 : Int32) (a3 : Int32) (μ : gM) (r : Int32) (μ' : gM) (h : mX7_entry a1 a2 a3 μ = some (r, μ')) : gMet l yX7_entry cX7_entry 5 (some .int) ({ frames := 2, cells := 0, slots := 0, locals := 45 } : Room) D gE_R gkd_R tc ad grh_R sa [.ref (ad 0 0), .int a1, .int a2, .int a3] μ (some (.int r)) μ' := by
  refine gMet_of hI ⟨by decide +kernel, Nat.le_of_ble_eq_true rfl⟩ (fun p e s m args below meth c sz hr hlk => ?_)
  unfold mX7_entry at h
  show JR p l e ({ frames := 2, cells := 0, slots := 0, locals := 45 } : Room) s m args below meth c cX7_entry 5 RX7 D tc sa ad sz (some (.int r)) μ' μ 0 [(0, .ref (ad 0 0)), (1, .int a1), (2, .int a2), (3, .int a3)] []
  refine J_iload_n (i := 1) (q := 1) (pc1 := 1) dX7_entry_0 rfl rfl rfl ?_
  obtain ⟨r2, hc1, h⟩ := gBp_s h
  refine J_callS (As := [.int a1]) (st := []) (st1 := [.int r2]) (pc1 := 4) (kX7_isNode l D tc sa ad hI a1 μ r2 hc1) wcX7_isNode wlX7_185 rfl ⟨rfl, rfl, Nat.le_of_ble_eq_true rfl, Nat.le_of_ble_eq_true rfl⟩ ⟨Nat.zero_le _, Nat.zero_le _⟩ (Nat.le_of_ble_eq_true rfl) dX7_entry_1 rfl rfl ?_
  obtain ⟨j4, ej4, h⟩ := gJon_s h
  have kj4 : ∀ (x3 : Int32), j4 x3 = some (r, μ') → JR p l e ({ frames := 2, cells := 0, slots := 0, locals := 45 } : Room) s m args below meth c cX7_entry 5 RX7 D tc sa ad sz (some (.int r)) μ' μ 33 [(0, .ref (ad 0 0)), (1, .int a1), (2, .int a2), (3, .int a3)] [.int x3] := by
    intro x3 h
    rw [ej4] at h
    try dsimp only at h
    refine J_istore (i := 4) (lv1 := [(4, .int x3), (0, .ref (ad 0 0)), (1, .int a1), (2, .int a2), (3, .int a3)]) (pc1 := 35) dX7_entry_33 (by decide) rfl rfl ?_
    refine J_aload_n (i := 0) (q := 1) (pc1 := 36) dX7_entry_35 rfl rfl rfl ?_
    refine J_iconst (v := 1) (pc1 := 37) dX7_entry_36 (by decide) rfl ?_
    refine J_iload (i := 4) (q := 0) (pc1 := 39) dX7_entry_37 rfl rfl ?_
    obtain ⟨x5, e6, h⟩ := gLet_s h
    have k7 : JR p l e ({ frames := 2, cells := 0, slots := 0, locals := 45 } : Room) s m args below meth c cX7_entry 5 RX7 D tc sa ad sz (some (.int r)) μ' μ 47 [(4, .int x3), (0, .ref (ad 0 0)), (1, .int a1), (2, .int a2), (3, .int a3)] [.int x5, .int 1, .ref (ad 0 0)] := by
      obtain ⟨r10, μ11, hc9, h⟩ := gBd_s h
      refine J_callV (As := [.int 1, .int x5]) (ad := ad) (f := 0) (i := 0) (st := []) (st1 := [.int r10]) (pc1 := 50) (kX7_fails l D tc sa ad hI 1 x5 μ r10 μ11 hc9) wcX7_fails wlX7_55 eR0 rfl rfl rfl ⟨rfl, rfl, Nat.le_of_ble_eq_true rfl, Nat.le_of_ble_eq_true rfl⟩ ⟨Nat.zero_le _, Nat.zero_le _⟩ (Nat.le_of_ble_eq_true rfl) dX7_entry_47 rfl rfl ?_
      refine J_if_ne (tgt := 75) (pc1 := 53) dX7_entry_50 (by decide) (fun q12 => ?_) rfl (fun q12 => ?_)
      · rw [if_neg q12] at h
        refine J_iconst (v := 0) (pc1 := 76) dX7_entry_75 (by decide) rfl ?_
        refine J_goto (tgt := 86) dX7_entry_76 (by decide) ?_
        cases h
        exact J_iret hr hlk dX7_entry_86
      · rw [if_pos q12] at h
        refine J_aload_n (i := 0) (q := 1) (pc1 := 54) dX7_entry_53 rfl rfl rfl ?_
        refine J_iconst (v := 2) (pc1 := 55) dX7_entry_54 (by decide) rfl ?_
        refine J_iload_n (i := 3) (q := 4) (pc1 := 56) dX7_entry_55 rfl rfl rfl ?_
        refine J_iconst (v := 0) (pc1 := 57) dX7_entry_56 (by decide) rfl ?_
        refine J_iconst (v := 2) (pc1 := 58) dX7_entry_57 (by decide) rfl ?_
        obtain ⟨r14, hc13, h⟩ := gBp_s h
        refine J_callS (As := [.int a3, .int 0, .int 2]) (st := [.int 2, .ref (ad 0 0)]) (st1 := [.int r14, .int 2, .ref (ad 0 0)]) (pc1 := 61) (kX7_isBetween l D tc sa ad hI a3 0 2 μ11 r14 hc13) wcX7_isBetween wlX7_34 rfl ⟨rfl, rfl, Nat.le_of_ble_eq_true rfl, Nat.le_of_ble_eq_true rfl⟩ ⟨Nat.zero_le _, Nat.zero_le _⟩ (Nat.le_of_ble_eq_true rfl) dX7_entry_58 rfl rfl ?_
        obtain ⟨x15, e16, h⟩ := gLet_s h
        have k17 : JR p l e ({ frames := 2, cells := 0, slots := 0, locals := 45 } : Room) s m args below meth c cX7_entry 5 RX7 D tc sa ad sz (some (.int r)) μ' μ11 69 [(4, .int x3), (0, .ref (ad 0 0)), (1, .int a1), (2, .int a2), (3, .int a3)] [.int x15, .int 2, .ref (ad 0 0)] := by
          obtain ⟨r20, μ21, hc19, h⟩ := gBd_s h
          refine J_callV (As := [.int 2, .int x15]) (ad := ad) (f := 0) (i := 0) (st := []) (st1 := [.int r20]) (pc1 := 72) (kX7_fails l D tc sa ad hI 2 x15 μ11 r20 μ21 hc19) wcX7_fails wlX7_55 eR0 rfl rfl rfl ⟨rfl, rfl, Nat.le_of_ble_eq_true rfl, Nat.le_of_ble_eq_true rfl⟩ ⟨Nat.zero_le _, Nat.zero_le _⟩ (Nat.le_of_ble_eq_true rfl) dX7_entry_69 rfl rfl ?_
          refine J_if_eq (tgt := 79) (pc1 := 75) dX7_entry_72 (by decide) (fun q22 => ?_) rfl (fun q22 => ?_)
          · rw [if_pos q22] at h
            refine J_aload_n (i := 0) (q := 1) (pc1 := 80) dX7_entry_79 rfl rfl rfl ?_
            refine J_iload_n (i := 1) (q := 2) (pc1 := 81) dX7_entry_80 rfl rfl rfl ?_
            refine J_iload_n (i := 2) (q := 3) (pc1 := 82) dX7_entry_81 rfl rfl rfl ?_
            refine J_iload_n (i := 3) (q := 4) (pc1 := 83) dX7_entry_82 rfl rfl rfl ?_
            obtain ⟨r24, hc23, h⟩ := gBp_s h
            refine J_callV (As := [.int a1, .int a2, .int a3]) (ad := ad) (f := 0) (i := 0) (st := []) (st1 := [.int r24]) (pc1 := 86) (kX7_entryOf l D tc sa ad hI a1 a2 a3 μ21 r24 hc23) wcX7_entryOf wlX7_63 eR0 rfl rfl rfl ⟨rfl, rfl, Nat.le_of_ble_eq_true rfl, Nat.le_of_ble_eq_true rfl⟩ ⟨Nat.zero_le _, Nat.zero_le _⟩ (Nat.le_of_ble_eq_true rfl) dX7_entry_83 rfl rfl ?_
            cases h
            exact J_iret hr hlk dX7_entry_86
          · rw [if_neg q22] at h
            refine J_iconst (v := 0) (pc1 := 76) dX7_entry_75 (by decide) rfl ?_
            refine J_goto (tgt := 86) dX7_entry_76 (by decide) ?_
            cases h
            exact J_iret hr hlk dX7_entry_86
        refine J_if_ne (tgt := 68) (pc1 := 64) dX7_entry_61 (by decide) (fun q18 => ?_) rfl (fun q18 => ?_)
        · rw [if_neg q18] at e16
          subst e16
          refine J_iconst (v := 0) (pc1 := 69) dX7_entry_68 (by decide) rfl ?_
          exact k17
        · rw [if_pos q18] at e16
          subst e16
          refine J_iconst (v := 1) (pc1 := 65) dX7_entry_64 (by decide) rfl ?_
          refine J_goto (tgt := 69) dX7_entry_65 (by decide) ?_
          exact k17
    refine J_if_ne (tgt := 46) (pc1 := 42) dX7_entry_39 (by decide) (fun q8 => ?_) rfl (fun q8 => ?_)
    · rw [if_neg q8] at e6
      subst e6
      refine J_iconst (v := 0) (pc1 := 47) dX7_entry_46 (by decide) rfl ?_
      exact k7
    · rw [if_pos q8] at e6
      subst e6
      refine J_iconst (v := 1) (pc1 := 43) dX7_entry_42 (by decide) rfl ?_
      refine J_goto (tgt := 47) dX7_entry_43 (by decide) ?_
      exact k7
  clear ej4
  obtain ⟨j25, ej25, h⟩ := gJon_s h
  have kj25 : ∀ (u26 : Unit), j25 u26 = some (r, μ') → JR p l e ({ frames := 2, cells := 0, slots := 0, locals := 45 } : Room) s m args below meth c cX7_entry 5 RX7 D tc sa ad sz (some (.int r)) μ' μ 32 [(0, .ref (ad 0 0)), (1, .int a1), (2, .int a2), (3, .int a3)] [] := by
    intro u26 h
    rw [ej25] at h
    try dsimp only at h
    refine J_iconst (v := 0) (pc1 := 33) dX7_entry_32 (by decide) rfl ?_
    exact kj4 _ h
  clear ej25
  refine J_if_eq (tgt := 32) (pc1 := 7) dX7_entry_4 (by decide) (fun q27 => ?_) rfl (fun q27 => ?_)
  · rw [if_pos q27] at h
    exact kj25 ()  h
  · rw [if_neg q27] at h
    refine J_iload_n (i := 2) (q := 2) (pc1 := 8) dX7_entry_7 rfl rfl rfl ?_
    refine J_aload_n (i := 0) (q := 0) (pc1 := 9) dX7_entry_8 rfl rfl rfl ?_
    refine J_iload_n (i := 1) (q := 1) (pc1 := 10) dX7_entry_9 rfl rfl rfl ?_
    refine J_bipush (v := 7) (pc1 := 12) dX7_entry_10 (by decide) rfl ?_
    obtain ⟨r29, hc28, h⟩ := gBp_s h
    refine J_callV (As := [.int a1, .int 7]) (ad := ad) (f := 0) (i := 0) (st := [.int a2]) (st1 := [.int r29, .int a2]) (pc1 := 15) (kX7_of l D tc sa ad hI a1 7 μ r29 hc28) wcX7_of wlX7_38 eR0 rfl rfl rfl ⟨rfl, rfl, Nat.le_of_ble_eq_true rfl, Nat.le_of_ble_eq_true rfl⟩ ⟨Nat.zero_le _, Nat.zero_le _⟩ (Nat.le_of_ble_eq_true rfl) dX7_entry_12 rfl rfl ?_
    refine J_iconst (v := 1) (pc1 := 16) dX7_entry_15 (by decide) rfl ?_
    refine J_iadd (pc1 := 17) dX7_entry_16 rfl ?_
    refine J_aload_n (i := 0) (q := 0) (pc1 := 18) dX7_entry_17 rfl rfl rfl ?_
    refine J_iload_n (i := 1) (q := 1) (pc1 := 19) dX7_entry_18 rfl rfl rfl ?_
    obtain ⟨r31, hc30, h⟩ := gBp_s h
    refine J_callV (As := [.int a1]) (ad := ad) (f := 0) (i := 0) (st := [.int (r29 + 1), .int a2]) (st1 := [.int r31, .int (r29 + 1), .int a2]) (pc1 := 22) (kX7_last l D tc sa ad hI a1 μ r31 hc30) wcX7_last wlX7_67 eR0 rfl rfl rfl ⟨rfl, rfl, Nat.le_of_ble_eq_true rfl, Nat.le_of_ble_eq_true rfl⟩ ⟨Nat.zero_le _, Nat.zero_le _⟩ (Nat.le_of_ble_eq_true rfl) dX7_entry_19 rfl rfl ?_
    obtain ⟨r33, hc32, h⟩ := gBp_s h
    refine J_callS (As := [.int a2, .int (r29 + 1), .int r31]) (st := []) (st1 := [.int r33]) (pc1 := 25) (kX7_isBetween l D tc sa ad hI a2 (r29 + 1) r31 μ r33 hc32) wcX7_isBetween wlX7_34 rfl ⟨rfl, rfl, Nat.le_of_ble_eq_true rfl, Nat.le_of_ble_eq_true rfl⟩ ⟨Nat.zero_le _, Nat.zero_le _⟩ (Nat.le_of_ble_eq_true rfl) dX7_entry_22 rfl rfl ?_
    obtain ⟨x34, e35, h⟩ := gLet_s h
    have k36 : JR p l e ({ frames := 2, cells := 0, slots := 0, locals := 45 } : Room) s m args below meth c cX7_entry 5 RX7 D tc sa ad sz (some (.int r)) μ' μ 33 [(0, .ref (ad 0 0)), (1, .int a1), (2, .int a2), (3, .int a3)] [.int x34] := by
      refine J_istore (i := 4) (lv1 := [(4, .int x34), (0, .ref (ad 0 0)), (1, .int a1), (2, .int a2), (3, .int a3)]) (pc1 := 35) dX7_entry_33 (by decide) rfl rfl ?_
      refine J_aload_n (i := 0) (q := 1) (pc1 := 36) dX7_entry_35 rfl rfl rfl ?_
      refine J_iconst (v := 1) (pc1 := 37) dX7_entry_36 (by decide) rfl ?_
      refine J_iload (i := 4) (q := 0) (pc1 := 39) dX7_entry_37 rfl rfl ?_
      obtain ⟨x38, e39, h⟩ := gLet_s h
      have k40 : JR p l e ({ frames := 2, cells := 0, slots := 0, locals := 45 } : Room) s m args below meth c cX7_entry 5 RX7 D tc sa ad sz (some (.int r)) μ' μ 47 [(4, .int x34), (0, .ref (ad 0 0)), (1, .int a1), (2, .int a2), (3, .int a3)] [.int x38, .int 1, .ref (ad 0 0)] := by
        obtain ⟨r43, μ44, hc42, h⟩ := gBd_s h
        refine J_callV (As := [.int 1, .int x38]) (ad := ad) (f := 0) (i := 0) (st := []) (st1 := [.int r43]) (pc1 := 50) (kX7_fails l D tc sa ad hI 1 x38 μ r43 μ44 hc42) wcX7_fails wlX7_55 eR0 rfl rfl rfl ⟨rfl, rfl, Nat.le_of_ble_eq_true rfl, Nat.le_of_ble_eq_true rfl⟩ ⟨Nat.zero_le _, Nat.zero_le _⟩ (Nat.le_of_ble_eq_true rfl) dX7_entry_47 rfl rfl ?_
        refine J_if_ne (tgt := 75) (pc1 := 53) dX7_entry_50 (by decide) (fun q45 => ?_) rfl (fun q45 => ?_)
        · rw [if_neg q45] at h
          refine J_iconst (v := 0) (pc1 := 76) dX7_entry_75 (by decide) rfl ?_
          refine J_goto (tgt := 86) dX7_entry_76 (by decide) ?_
          cases h
          exact J_iret hr hlk dX7_entry_86
        · rw [if_pos q45] at h
          refine J_aload_n (i := 0) (q := 1) (pc1 := 54) dX7_entry_53 rfl rfl rfl ?_
          refine J_iconst (v := 2) (pc1 := 55) dX7_entry_54 (by decide) rfl ?_
          refine J_iload_n (i := 3) (q := 4) (pc1 := 56) dX7_entry_55 rfl rfl rfl ?_
          refine J_iconst (v := 0) (pc1 := 57) dX7_entry_56 (by decide) rfl ?_
          refine J_iconst (v := 2) (pc1 := 58) dX7_entry_57 (by decide) rfl ?_
          obtain ⟨r47, hc46, h⟩ := gBp_s h
          refine J_callS (As := [.int a3, .int 0, .int 2]) (st := [.int 2, .ref (ad 0 0)]) (st1 := [.int r47, .int 2, .ref (ad 0 0)]) (pc1 := 61) (kX7_isBetween l D tc sa ad hI a3 0 2 μ44 r47 hc46) wcX7_isBetween wlX7_34 rfl ⟨rfl, rfl, Nat.le_of_ble_eq_true rfl, Nat.le_of_ble_eq_true rfl⟩ ⟨Nat.zero_le _, Nat.zero_le _⟩ (Nat.le_of_ble_eq_true rfl) dX7_entry_58 rfl rfl ?_
          obtain ⟨x48, e49, h⟩ := gLet_s h
          have k50 : JR p l e ({ frames := 2, cells := 0, slots := 0, locals := 45 } : Room) s m args below meth c cX7_entry 5 RX7 D tc sa ad sz (some (.int r)) μ' μ44 69 [(4, .int x34), (0, .ref (ad 0 0)), (1, .int a1), (2, .int a2), (3, .int a3)] [.int x48, .int 2, .ref (ad 0 0)] := by
            obtain ⟨r53, μ54, hc52, h⟩ := gBd_s h
            refine J_callV (As := [.int 2, .int x48]) (ad := ad) (f := 0) (i := 0) (st := []) (st1 := [.int r53]) (pc1 := 72) (kX7_fails l D tc sa ad hI 2 x48 μ44 r53 μ54 hc52) wcX7_fails wlX7_55 eR0 rfl rfl rfl ⟨rfl, rfl, Nat.le_of_ble_eq_true rfl, Nat.le_of_ble_eq_true rfl⟩ ⟨Nat.zero_le _, Nat.zero_le _⟩ (Nat.le_of_ble_eq_true rfl) dX7_entry_69 rfl rfl ?_
            refine J_if_eq (tgt := 79) (pc1 := 75) dX7_entry_72 (by decide) (fun q55 => ?_) rfl (fun q55 => ?_)
            · rw [if_pos q55] at h
              refine J_aload_n (i := 0) (q := 1) (pc1 := 80) dX7_entry_79 rfl rfl rfl ?_
              refine J_iload_n (i := 1) (q := 2) (pc1 := 81) dX7_entry_80 rfl rfl rfl ?_
              refine J_iload_n (i := 2) (q := 3) (pc1 := 82) dX7_entry_81 rfl rfl rfl ?_
              refine J_iload_n (i := 3) (q := 4) (pc1 := 83) dX7_entry_82 rfl rfl rfl ?_
              obtain ⟨r57, hc56, h⟩ := gBp_s h
              refine J_callV (As := [.int a1, .int a2, .int a3]) (ad := ad) (f := 0) (i := 0) (st := []) (st1 := [.int r57]) (pc1 := 86) (kX7_entryOf l D tc sa ad hI a1 a2 a3 μ54 r57 hc56) wcX7_entryOf wlX7_63 eR0 rfl rfl rfl ⟨rfl, rfl, Nat.le_of_ble_eq_true rfl, Nat.le_of_ble_eq_true rfl⟩ ⟨Nat.zero_le _, Nat.zero_le _⟩ (Nat.le_of_ble_eq_true rfl) dX7_entry_83 rfl rfl ?_
              cases h
              exact J_iret hr hlk dX7_entry_86
            · rw [if_neg q55] at h
              refine J_iconst (v := 0) (pc1 := 76) dX7_entry_75 (by decide) rfl ?_
              refine J_goto (tgt := 86) dX7_entry_76 (by decide) ?_
              cases h
              exact J_iret hr hlk dX7_entry_86
          refine J_if_ne (tgt := 68) (pc1 := 64) dX7_entry_61 (by decide) (fun q51 => ?_) rfl (fun q51 => ?_)
          · rw [if_neg q51] at e49
            subst e49
            refine J_iconst (v := 0) (pc1 := 69) dX7_entry_68 (by decide) rfl ?_
            exact k50
          · rw [if_pos q51] at e49
            subst e49
            refine J_iconst (v := 1) (pc1 := 65) dX7_entry_64 (by decide) rfl ?_
            refine J_goto (tgt := 69) dX7_entry_65 (by decide) ?_
            exact k50
      refine J_if_ne (tgt := 46) (pc1 := 42) dX7_entry_39 (by decide) (fun q41 => ?_) rfl (fun q41 => ?_)
      · rw [if_neg q41] at e39
        subst e39
        refine J_iconst (v := 0) (pc1 := 47) dX7_entry_46 (by decide) rfl ?_
        exact k40
      · rw [if_pos q41] at e39
        subst e39
        refine J_iconst (v := 1) (pc1 := 43) dX7_entry_42 (by decide) rfl ?_
        refine J_goto (tgt := 47) dX7_entry_43 (by decide) ?_
        exact k40
    refine J_if_eq (tgt := 32) (pc1 := 28) dX7_entry_25 (by decide) (fun q37 => ?_) rfl (fun q37 => ?_)
    · rw [if_pos q37] at e35
      subst e35
      refine J_iconst (v := 0) (pc1 := 33) dX7_entry_32 (by decide) rfl ?_
      exact k36
    · rw [if_neg q37] at e35
      subst e35
      refine J_iconst (v := 1) (pc1 := 29) dX7_entry_28 (by decide) rfl ?_
      refine J_goto (tgt := 33) dX7_entry_29 (by decide) ?_
      exact k36
def mX7_messages  (μ : gM) : Option (Int32 × gM) :=
  gLet (α := gM) (w3 μ 0 0 0 0) fun μ1 =>
  some (μ1 1 0 3, μ1)
set_option maxHeartbeats 4000000 in
set_option maxRecDepth 100000 in
theorem kX7_messages (l : Launch) (D : va_G) (tc : Nat → ClassId) (sa : Nat → Nat) (ad : Nat → Nat → Nat) (hI : gI gE_R ad)  (μ : gM) (r : Int32) (μ' : gM) (h : mX7_messages  μ = some (r, μ')) : gMet l yX7_messages cX7_messages 1 (some .int) ({ frames := 0, cells := 0, slots := 0, locals := 0 } : Room) D gE_R gkd_R tc ad grh_R sa [.ref (ad 0 0)] μ (some (.int r)) μ' := by
  refine gMet_of hI ⟨by decide +kernel, Nat.le_of_ble_eq_true rfl⟩ (fun p e s m args below meth c sz hr hlk => ?_)
  unfold mX7_messages at h
  show JR p l e ({ frames := 0, cells := 0, slots := 0, locals := 0 } : Room) s m args below meth c cX7_messages 1 RX7 D tc sa ad sz (some (.int r)) μ' μ 0 [(0, .ref (ad 0 0))] []
  refine J_aload_n (i := 0) (q := 0) (pc1 := 1) dX7_messages_0 rfl rfl rfl ?_
  refine J_iconst (v := 0) (pc1 := 2) dX7_messages_1 (by decide) rfl ?_
  refine J_putI (T := TX7) (pc1 := 5) eR0 rfl rfl inX7 tyX7 tyX7_ok nmX7 0 (by decide) rfl (fun _ _ _ _ => rfl) flX7_30 rfl rfl rfl rfl dX7_messages_2 rfl ?_
  obtain ⟨μ1, e2, h⟩ := gLet_s h
  rw [← e2]
  clear e2
  refine J_aload_n (i := 0) (q := 0) (pc1 := 6) dX7_messages_5 rfl rfl rfl ?_
  refine J_getR (T := TX7) (f' := 1) (i' := 0) (pc1 := 9) eR0 rfl rfl inX7 1 (by decide) rfl rfl flX7_9 rfl dX7_messages_6 rfl ?_
  refine J_iconst (v := 3) (pc1 := 10) dX7_messages_9 (by decide) rfl ?_
  refine J_iald (ix := 3) (pc1 := 11) (by decide) eR1 rfl (by decide : inb 3 1616) dX7_messages_10 rfl ?_
  cases h
  exact J_iret hr hlk dX7_messages_11
def mX7_message (a1 : Int32) (a2 : Int32) (μ : gM) : Option (Int32 × gM) :=
  gBp (mX7_isBetween a1 0 ((μ 1 0 3) - 1) μ) fun r2 =>
  gLet (α := Int32) (if r2 = 0 then 1 else 0) fun x3 =>
  gBd (mX7_fails 1 x3 μ) fun r8 μ9 =>
  if r8 = 0 then
    gBp (mX7_isBetween a2 0 6 μ9) fun r12 =>
    gLet (α := Int32) (if r12 = 0 then 1 else 0) fun x13 =>
    gBd (mX7_fails 2 x13 μ9) fun r18 μ19 =>
    if r18 = 0 then
      gBp (mX7_part a1 a2 μ19) fun r22 =>
      some (r22, μ19)
    else
      some (0, μ19)
  else
    some (0, μ9)
set_option maxHeartbeats 4000000 in
set_option maxRecDepth 100000 in
theorem kX7_message (l : Launch) (D : va_G) (tc : Nat → ClassId) (sa : Nat → Nat) (ad : Nat → Nat → Nat) (hI : gI gE_R ad) (a1 : Int32) (a2 : Int32) (μ : gM) (r : Int32) (μ' : gM) (h : mX7_message a1 a2 μ = some (r, μ')) : gMet l yX7_message cX7_message 3 (some .int) ({ frames := 1, cells := 0, slots := 0, locals := 22 } : Room) D gE_R gkd_R tc ad grh_R sa [.ref (ad 0 0), .int a1, .int a2] μ (some (.int r)) μ' := by
  refine gMet_of hI ⟨by decide +kernel, Nat.le_of_ble_eq_true rfl⟩ (fun p e s m args below meth c sz hr hlk => ?_)
  unfold mX7_message at h
  show JR p l e ({ frames := 1, cells := 0, slots := 0, locals := 22 } : Room) s m args below meth c cX7_message 3 RX7 D tc sa ad sz (some (.int r)) μ' μ 0 [(0, .ref (ad 0 0)), (1, .int a1), (2, .int a2)] []
  refine J_aload_n (i := 0) (q := 0) (pc1 := 1) dX7_message_0 rfl rfl rfl ?_
  refine J_iconst (v := 1) (pc1 := 2) dX7_message_1 (by decide) rfl ?_
  refine J_iload_n (i := 1) (q := 1) (pc1 := 3) dX7_message_2 rfl rfl rfl ?_
  refine J_iconst (v := 0) (pc1 := 4) dX7_message_3 (by decide) rfl ?_
  refine J_aload_n (i := 0) (q := 0) (pc1 := 5) dX7_message_4 rfl rfl rfl ?_
  refine J_getR (T := TX7) (f' := 1) (i' := 0) (pc1 := 8) eR0 rfl rfl inX7 1 (by decide) rfl rfl flX7_9 rfl dX7_message_5 rfl ?_
  refine J_iconst (v := 3) (pc1 := 9) dX7_message_8 (by decide) rfl ?_
  refine J_iald (ix := 3) (pc1 := 10) (by decide) eR1 rfl (by decide : inb 3 1616) dX7_message_9 rfl ?_
  refine J_iconst (v := 1) (pc1 := 11) dX7_message_10 (by decide) rfl ?_
  refine J_isub (pc1 := 12) dX7_message_11 rfl ?_
  obtain ⟨r2, hc1, h⟩ := gBp_s h
  refine J_callS (As := [.int a1, .int 0, .int ((μ 1 0 3) - 1)]) (st := [.int 1, .ref (ad 0 0)]) (st1 := [.int r2, .int 1, .ref (ad 0 0)]) (pc1 := 15) (kX7_isBetween l D tc sa ad hI a1 0 ((μ 1 0 3) - 1) μ r2 hc1) wcX7_isBetween wlX7_34 rfl ⟨rfl, rfl, Nat.le_of_ble_eq_true rfl, Nat.le_of_ble_eq_true rfl⟩ ⟨Nat.zero_le _, Nat.zero_le _⟩ (Nat.le_of_ble_eq_true rfl) dX7_message_12 rfl rfl ?_
  obtain ⟨x3, e4, h⟩ := gLet_s h
  have k5 : JR p l e ({ frames := 1, cells := 0, slots := 0, locals := 22 } : Room) s m args below meth c cX7_message 3 RX7 D tc sa ad sz (some (.int r)) μ' μ 23 [(0, .ref (ad 0 0)), (1, .int a1), (2, .int a2)] [.int x3, .int 1, .ref (ad 0 0)] := by
    obtain ⟨r8, μ9, hc7, h⟩ := gBd_s h
    refine J_callV (As := [.int 1, .int x3]) (ad := ad) (f := 0) (i := 0) (st := []) (st1 := [.int r8]) (pc1 := 26) (kX7_fails l D tc sa ad hI 1 x3 μ r8 μ9 hc7) wcX7_fails wlX7_55 eR0 rfl rfl rfl ⟨rfl, rfl, Nat.le_of_ble_eq_true rfl, Nat.le_of_ble_eq_true rfl⟩ ⟨Nat.zero_le _, Nat.zero_le _⟩ (Nat.le_of_ble_eq_true rfl) dX7_message_23 rfl rfl ?_
    refine J_if_ne (tgt := 52) (pc1 := 29) dX7_message_26 (by decide) (fun q10 => ?_) rfl (fun q10 => ?_)
    · rw [if_neg q10] at h
      refine J_iconst (v := 0) (pc1 := 53) dX7_message_52 (by decide) rfl ?_
      refine J_goto (tgt := 62) dX7_message_53 (by decide) ?_
      cases h
      exact J_iret hr hlk dX7_message_62
    · rw [if_pos q10] at h
      refine J_aload_n (i := 0) (q := 0) (pc1 := 30) dX7_message_29 rfl rfl rfl ?_
      refine J_iconst (v := 2) (pc1 := 31) dX7_message_30 (by decide) rfl ?_
      refine J_iload_n (i := 2) (q := 2) (pc1 := 32) dX7_message_31 rfl rfl rfl ?_
      refine J_iconst (v := 0) (pc1 := 33) dX7_message_32 (by decide) rfl ?_
      refine J_bipush (v := 6) (pc1 := 35) dX7_message_33 (by decide) rfl ?_
      obtain ⟨r12, hc11, h⟩ := gBp_s h
      refine J_callS (As := [.int a2, .int 0, .int 6]) (st := [.int 2, .ref (ad 0 0)]) (st1 := [.int r12, .int 2, .ref (ad 0 0)]) (pc1 := 38) (kX7_isBetween l D tc sa ad hI a2 0 6 μ9 r12 hc11) wcX7_isBetween wlX7_34 rfl ⟨rfl, rfl, Nat.le_of_ble_eq_true rfl, Nat.le_of_ble_eq_true rfl⟩ ⟨Nat.zero_le _, Nat.zero_le _⟩ (Nat.le_of_ble_eq_true rfl) dX7_message_35 rfl rfl ?_
      obtain ⟨x13, e14, h⟩ := gLet_s h
      have k15 : JR p l e ({ frames := 1, cells := 0, slots := 0, locals := 22 } : Room) s m args below meth c cX7_message 3 RX7 D tc sa ad sz (some (.int r)) μ' μ9 46 [(0, .ref (ad 0 0)), (1, .int a1), (2, .int a2)] [.int x13, .int 2, .ref (ad 0 0)] := by
        obtain ⟨r18, μ19, hc17, h⟩ := gBd_s h
        refine J_callV (As := [.int 2, .int x13]) (ad := ad) (f := 0) (i := 0) (st := []) (st1 := [.int r18]) (pc1 := 49) (kX7_fails l D tc sa ad hI 2 x13 μ9 r18 μ19 hc17) wcX7_fails wlX7_55 eR0 rfl rfl rfl ⟨rfl, rfl, Nat.le_of_ble_eq_true rfl, Nat.le_of_ble_eq_true rfl⟩ ⟨Nat.zero_le _, Nat.zero_le _⟩ (Nat.le_of_ble_eq_true rfl) dX7_message_46 rfl rfl ?_
        refine J_if_eq (tgt := 56) (pc1 := 52) dX7_message_49 (by decide) (fun q20 => ?_) rfl (fun q20 => ?_)
        · rw [if_pos q20] at h
          refine J_aload_n (i := 0) (q := 0) (pc1 := 57) dX7_message_56 rfl rfl rfl ?_
          refine J_iload_n (i := 1) (q := 1) (pc1 := 58) dX7_message_57 rfl rfl rfl ?_
          refine J_iload_n (i := 2) (q := 2) (pc1 := 59) dX7_message_58 rfl rfl rfl ?_
          obtain ⟨r22, hc21, h⟩ := gBp_s h
          refine J_callV (As := [.int a1, .int a2]) (ad := ad) (f := 0) (i := 0) (st := []) (st1 := [.int r22]) (pc1 := 62) (kX7_part l D tc sa ad hI a1 a2 μ19 r22 hc21) wcX7_part wlX7_163 eR0 rfl rfl rfl ⟨rfl, rfl, Nat.le_of_ble_eq_true rfl, Nat.le_of_ble_eq_true rfl⟩ ⟨Nat.zero_le _, Nat.zero_le _⟩ (Nat.le_of_ble_eq_true rfl) dX7_message_59 rfl rfl ?_
          cases h
          exact J_iret hr hlk dX7_message_62
        · rw [if_neg q20] at h
          refine J_iconst (v := 0) (pc1 := 53) dX7_message_52 (by decide) rfl ?_
          refine J_goto (tgt := 62) dX7_message_53 (by decide) ?_
          cases h
          exact J_iret hr hlk dX7_message_62
      refine J_if_ne (tgt := 45) (pc1 := 41) dX7_message_38 (by decide) (fun q16 => ?_) rfl (fun q16 => ?_)
      · rw [if_neg q16] at e14
        subst e14
        refine J_iconst (v := 0) (pc1 := 46) dX7_message_45 (by decide) rfl ?_
        exact k15
      · rw [if_pos q16] at e14
        subst e14
        refine J_iconst (v := 1) (pc1 := 42) dX7_message_41 (by decide) rfl ?_
        refine J_goto (tgt := 46) dX7_message_42 (by decide) ?_
        exact k15
  refine J_if_ne (tgt := 22) (pc1 := 18) dX7_message_15 (by decide) (fun q6 => ?_) rfl (fun q6 => ?_)
  · rw [if_neg q6] at e4
    subst e4
    refine J_iconst (v := 0) (pc1 := 23) dX7_message_22 (by decide) rfl ?_
    exact k5
  · rw [if_pos q6] at e4
    subst e4
    refine J_iconst (v := 1) (pc1 := 19) dX7_message_18 (by decide) rfl ?_
    refine J_goto (tgt := 23) dX7_message_19 (by decide) ?_
    exact k5
def mX7_lose (a1 : Int32) (μ : gM) : Option (Int32 × gM) :=
  gBp (mX7_isBetween a1 0 ((μ 1 0 3) - 1) μ) fun r2 =>
  gLet (α := Int32) (if r2 = 0 then 1 else 0) fun x3 =>
  gBd (mX7_fails 1 x3 μ) fun r8 μ9 =>
  if r8 = 0 then
    gBp (mX7_remove a1 μ9) fun μ12 =>
    gBp (mX7_tally 2 1 μ12) fun μ14 =>
    some (μ14 1 0 3, μ14)
  else
    some (0, μ9)
set_option maxHeartbeats 4000000 in
set_option maxRecDepth 100000 in
theorem kX7_lose (l : Launch) (D : va_G) (tc : Nat → ClassId) (sa : Nat → Nat) (ad : Nat → Nat → Nat) (hI : gI gE_R ad) (a1 : Int32) (μ : gM) (r : Int32) (μ' : gM) (h : mX7_lose a1 μ = some (r, μ')) : gMet l yX7_lose cX7_lose 2 (some .int) ({ frames := 1, cells := 0, slots := 0, locals := 22 } : Room) D gE_R gkd_R tc ad grh_R sa [.ref (ad 0 0), .int a1] μ (some (.int r)) μ' := by
  refine gMet_of hI ⟨by decide +kernel, Nat.le_of_ble_eq_true rfl⟩ (fun p e s m args below meth c sz hr hlk => ?_)
  unfold mX7_lose at h
  show JR p l e ({ frames := 1, cells := 0, slots := 0, locals := 22 } : Room) s m args below meth c cX7_lose 2 RX7 D tc sa ad sz (some (.int r)) μ' μ 0 [(0, .ref (ad 0 0)), (1, .int a1)] []
  refine J_aload_n (i := 0) (q := 0) (pc1 := 1) dX7_lose_0 rfl rfl rfl ?_
  refine J_iconst (v := 1) (pc1 := 2) dX7_lose_1 (by decide) rfl ?_
  refine J_iload_n (i := 1) (q := 1) (pc1 := 3) dX7_lose_2 rfl rfl rfl ?_
  refine J_iconst (v := 0) (pc1 := 4) dX7_lose_3 (by decide) rfl ?_
  refine J_aload_n (i := 0) (q := 0) (pc1 := 5) dX7_lose_4 rfl rfl rfl ?_
  refine J_getR (T := TX7) (f' := 1) (i' := 0) (pc1 := 8) eR0 rfl rfl inX7 1 (by decide) rfl rfl flX7_9 rfl dX7_lose_5 rfl ?_
  refine J_iconst (v := 3) (pc1 := 9) dX7_lose_8 (by decide) rfl ?_
  refine J_iald (ix := 3) (pc1 := 10) (by decide) eR1 rfl (by decide : inb 3 1616) dX7_lose_9 rfl ?_
  refine J_iconst (v := 1) (pc1 := 11) dX7_lose_10 (by decide) rfl ?_
  refine J_isub (pc1 := 12) dX7_lose_11 rfl ?_
  obtain ⟨r2, hc1, h⟩ := gBp_s h
  refine J_callS (As := [.int a1, .int 0, .int ((μ 1 0 3) - 1)]) (st := [.int 1, .ref (ad 0 0)]) (st1 := [.int r2, .int 1, .ref (ad 0 0)]) (pc1 := 15) (kX7_isBetween l D tc sa ad hI a1 0 ((μ 1 0 3) - 1) μ r2 hc1) wcX7_isBetween wlX7_34 rfl ⟨rfl, rfl, Nat.le_of_ble_eq_true rfl, Nat.le_of_ble_eq_true rfl⟩ ⟨Nat.zero_le _, Nat.zero_le _⟩ (Nat.le_of_ble_eq_true rfl) dX7_lose_12 rfl rfl ?_
  obtain ⟨x3, e4, h⟩ := gLet_s h
  have k5 : JR p l e ({ frames := 1, cells := 0, slots := 0, locals := 22 } : Room) s m args below meth c cX7_lose 2 RX7 D tc sa ad sz (some (.int r)) μ' μ 23 [(0, .ref (ad 0 0)), (1, .int a1)] [.int x3, .int 1, .ref (ad 0 0)] := by
    obtain ⟨r8, μ9, hc7, h⟩ := gBd_s h
    refine J_callV (As := [.int 1, .int x3]) (ad := ad) (f := 0) (i := 0) (st := []) (st1 := [.int r8]) (pc1 := 26) (kX7_fails l D tc sa ad hI 1 x3 μ r8 μ9 hc7) wcX7_fails wlX7_55 eR0 rfl rfl rfl ⟨rfl, rfl, Nat.le_of_ble_eq_true rfl, Nat.le_of_ble_eq_true rfl⟩ ⟨Nat.zero_le _, Nat.zero_le _⟩ (Nat.le_of_ble_eq_true rfl) dX7_lose_23 rfl rfl ?_
    refine J_if_eq (tgt := 31) (pc1 := 29) dX7_lose_26 (by decide) (fun q10 => ?_) rfl (fun q10 => ?_)
    · rw [if_pos q10] at h
      refine J_aload_n (i := 0) (q := 0) (pc1 := 32) dX7_lose_31 rfl rfl rfl ?_
      refine J_iload_n (i := 1) (q := 1) (pc1 := 33) dX7_lose_32 rfl rfl rfl ?_
      obtain ⟨μ12, hc11, h⟩ := gBp_s h
      refine J_callV (As := [.int a1]) (ad := ad) (f := 0) (i := 0) (st := []) (st1 := []) (pc1 := 36) (kX7_remove l D tc sa ad hI a1 μ9 μ12 hc11) wcX7_remove wlX7_173 eR0 rfl rfl rfl ⟨rfl, rfl, Nat.le_of_ble_eq_true rfl, Nat.le_of_ble_eq_true rfl⟩ ⟨Nat.zero_le _, Nat.zero_le _⟩ (Nat.le_of_ble_eq_true rfl) dX7_lose_33 rfl rfl ?_
      refine J_aload_n (i := 0) (q := 0) (pc1 := 37) dX7_lose_36 rfl rfl rfl ?_
      refine J_iconst (v := 2) (pc1 := 38) dX7_lose_37 (by decide) rfl ?_
      refine J_iconst (v := 1) (pc1 := 39) dX7_lose_38 (by decide) rfl ?_
      obtain ⟨μ14, hc13, h⟩ := gBp_s h
      refine J_callV (As := [.int 2, .int 1]) (ad := ad) (f := 0) (i := 0) (st := []) (st1 := []) (pc1 := 42) (kX7_tally l D tc sa ad hI 2 1 μ12 μ14 hc13) wcX7_tally wlX7_86 eR0 rfl rfl rfl ⟨rfl, rfl, Nat.le_of_ble_eq_true rfl, Nat.le_of_ble_eq_true rfl⟩ ⟨Nat.zero_le _, Nat.zero_le _⟩ (Nat.le_of_ble_eq_true rfl) dX7_lose_39 rfl rfl ?_
      refine J_aload_n (i := 0) (q := 0) (pc1 := 43) dX7_lose_42 rfl rfl rfl ?_
      refine J_getR (T := TX7) (f' := 1) (i' := 0) (pc1 := 46) eR0 rfl rfl inX7 1 (by decide) rfl rfl flX7_9 rfl dX7_lose_43 rfl ?_
      refine J_iconst (v := 3) (pc1 := 47) dX7_lose_46 (by decide) rfl ?_
      refine J_iald (ix := 3) (pc1 := 48) (by decide) eR1 rfl (by decide : inb 3 1616) dX7_lose_47 rfl ?_
      cases h
      exact J_iret hr hlk dX7_lose_48
    · rw [if_neg q10] at h
      refine J_iconst (v := 0) (pc1 := 30) dX7_lose_29 (by decide) rfl ?_
      cases h
      exact J_iret hr hlk dX7_lose_30
  refine J_if_ne (tgt := 22) (pc1 := 18) dX7_lose_15 (by decide) (fun q6 => ?_) rfl (fun q6 => ?_)
  · rw [if_neg q6] at e4
    subst e4
    refine J_iconst (v := 0) (pc1 := 23) dX7_lose_22 (by decide) rfl ?_
    exact k5
  · rw [if_pos q6] at e4
    subst e4
    refine J_iconst (v := 1) (pc1 := 19) dX7_lose_18 (by decide) rfl ?_
    refine J_goto (tgt := 23) dX7_lose_19 (by decide) ?_
    exact k5
def mX7_leader  (μ : gM) : Option (Int32 × gM) :=
  gJon (fun (x1 : Int32) =>
      gLet (α := Int32) (if 0 ≤ x1 then 0 else 1) fun x3 =>
      gBd (mX7_fails 1 x3 μ) fun r8 μ9 =>
      gLet (α := Int32) (if r8 = 0 then x1 else 0) fun x10 =>
      some (x10, μ9)) fun j2 =>
  gFx2 (fun rec16 (x14 : Int32) (x15 : Int32) =>
      if 5 ≤ x15 then
        j2 x14
      else
        gBp (mX7_of x15 0 μ) fun r19 =>
        gJon (fun (x20 : Int32) =>
            if x20 = 0 then
              rec16 x14 (x15 + 1)
            else
              if x14 < 0 then
                rec16 x15 (x15 + 1)
              else
                gBp (mX7_of x15 2 μ) fun r25 =>
                gBp (mX7_of x14 2 μ) fun r27 =>
                gLet (α := Int32) (if r25 ≤ r27 then x14 else x15) fun x28 =>
                rec16 x28 (x15 + 1)) fun j21 =>
        gJon (fun (u33 : Unit) =>
            j21 0) fun j32 =>
        if r19 = 1 then
          gBp (mX7_of x15 1 μ) fun r36 =>
          gLet (α := Int32) (if r36 = 2 then 1 else 0) fun x37 =>
          if x37 = 0 then
            rec16 x14 (x15 + 1)
          else
            if x14 < 0 then
              rec16 x15 (x15 + 1)
            else
              gBp (mX7_of x15 2 μ) fun r44 =>
              gBp (mX7_of x14 2 μ) fun r46 =>
              gLet (α := Int32) (if r44 ≤ r46 then x14 else x15) fun x47 =>
              rec16 x47 (x15 + 1)
        else
          j32 () ) 1000000 (-1) 0
set_option maxHeartbeats 4000000 in
set_option maxRecDepth 100000 in
theorem kX7_leader (l : Launch) (D : va_G) (tc : Nat → ClassId) (sa : Nat → Nat) (ad : Nat → Nat → Nat) (hI : gI gE_R ad)  (μ : gM) (r : Int32) (μ' : gM) (h : mX7_leader  μ = some (r, μ')) : gMet l yX7_leader cX7_leader 4 (some .int) ({ frames := 1, cells := 0, slots := 0, locals := 22 } : Room) D gE_R gkd_R tc ad grh_R sa [.ref (ad 0 0)] μ (some (.int r)) μ' := by
  refine gMet_of hI ⟨by decide +kernel, Nat.le_of_ble_eq_true rfl⟩ (fun p e s m args below meth c sz hr hlk => ?_)
  unfold mX7_leader at h
  show JR p l e ({ frames := 1, cells := 0, slots := 0, locals := 22 } : Room) s m args below meth c cX7_leader 4 RX7 D tc sa ad sz (some (.int r)) μ' μ 0 [(0, .ref (ad 0 0))] []
  refine J_iconst (v := (-1)) (pc1 := 1) dX7_leader_0 (by decide) rfl ?_
  refine J_istore_n (i := 1) (lv1 := [(1, .int (-1)), (0, .ref (ad 0 0))]) (pc1 := 2) dX7_leader_1 rfl (by decide) rfl rfl ?_
  refine J_iconst (v := 0) (pc1 := 3) dX7_leader_2 (by decide) rfl ?_
  refine J_istore_n (i := 2) (lv1 := [(2, .int 0), (1, .int (-1)), (0, .ref (ad 0 0))]) (pc1 := 4) dX7_leader_3 rfl (by decide) rfl rfl ?_
  obtain ⟨j2, ej2, h⟩ := gJon_s h
  have kj2 : ∀ (x1 : Int32), j2 x1 = some (r, μ') → JR p l e ({ frames := 1, cells := 0, slots := 0, locals := 22 } : Room) s m args below meth c cX7_leader 4 RX7 D tc sa ad sz (some (.int r)) μ' μ 70 [(0, .ref (ad 0 0)), (1, .int x1)] [] := by
    intro x1 h
    rw [ej2] at h
    try dsimp only at h
    refine J_aload_n (i := 0) (q := 0) (pc1 := 71) dX7_leader_70 rfl rfl rfl ?_
    refine J_iconst (v := 1) (pc1 := 72) dX7_leader_71 (by decide) rfl ?_
    refine J_iload_n (i := 1) (q := 1) (pc1 := 73) dX7_leader_72 rfl rfl rfl ?_
    obtain ⟨x3, e4, h⟩ := gLet_s h
    have k5 : JR p l e ({ frames := 1, cells := 0, slots := 0, locals := 22 } : Room) s m args below meth c cX7_leader 4 RX7 D tc sa ad sz (some (.int r)) μ' μ 81 [(0, .ref (ad 0 0)), (1, .int x1)] [.int x3, .int 1, .ref (ad 0 0)] := by
      obtain ⟨r8, μ9, hc7, h⟩ := gBd_s h
      refine J_callV (As := [.int 1, .int x3]) (ad := ad) (f := 0) (i := 0) (st := []) (st1 := [.int r8]) (pc1 := 84) (kX7_fails l D tc sa ad hI 1 x3 μ r8 μ9 hc7) wcX7_fails wlX7_55 eR0 rfl rfl rfl ⟨rfl, rfl, Nat.le_of_ble_eq_true rfl, Nat.le_of_ble_eq_true rfl⟩ ⟨Nat.zero_le _, Nat.zero_le _⟩ (Nat.le_of_ble_eq_true rfl) dX7_leader_81 rfl rfl ?_
      obtain ⟨x10, e11, h⟩ := gLet_s h
      have k12 : JR p l e ({ frames := 1, cells := 0, slots := 0, locals := 22 } : Room) s m args below meth c cX7_leader 4 RX7 D tc sa ad sz (some (.int r)) μ' μ9 92 [(0, .ref (ad 0 0)), (1, .int x1)] [.int x10] := by
        cases h
        exact J_iret hr hlk dX7_leader_92
      refine J_if_eq (tgt := 91) (pc1 := 87) dX7_leader_84 (by decide) (fun q13 => ?_) rfl (fun q13 => ?_)
      · rw [if_pos q13] at e11
        subst e11
        refine J_iload_n (i := 1) (q := 1) (pc1 := 92) dX7_leader_91 rfl rfl rfl ?_
        exact k12
      · rw [if_neg q13] at e11
        subst e11
        refine J_iconst (v := 0) (pc1 := 88) dX7_leader_87 (by decide) rfl ?_
        refine J_goto (tgt := 92) dX7_leader_88 (by decide) ?_
        exact k12
    refine J_if_ge (tgt := 80) (pc1 := 76) dX7_leader_73 (by decide) (fun q6 => ?_) rfl (fun q6 => ?_)
    · rw [if_pos q6] at e4
      subst e4
      refine J_iconst (v := 0) (pc1 := 81) dX7_leader_80 (by decide) rfl ?_
      exact k5
    · rw [if_neg q6] at e4
      subst e4
      refine J_iconst (v := 1) (pc1 := 77) dX7_leader_76 (by decide) rfl ?_
      refine J_goto (tgt := 81) dX7_leader_77 (by decide) ?_
      exact k5
  clear ej2
  refine J_sub [2, 1, 0] (lv1 := [(0, .ref (ad 0 0)), (1, .int (-1)), (2, .int 0)]) rfl ?_
  refine gFx2_s (P := fun x14 x15 => JR p l e ({ frames := 1, cells := 0, slots := 0, locals := 22 } : Room) s m args below meth c cX7_leader 4 RX7 D tc sa ad sz (some (.int r)) μ' μ 4 [(0, .ref (ad 0 0)), (1, .int x14), (2, .int x15)] []) (fun rec16 ihrec16 x14 x15 h => ?_) _ _ _ h
  try dsimp only at h
  refine J_iload_n (i := 2) (q := 2) (pc1 := 5) dX7_leader_4 rfl rfl rfl ?_
  refine J_iconst (v := 5) (pc1 := 6) dX7_leader_5 (by decide) rfl ?_
  refine J_icmp_ge (tgt := 70) (pc1 := 9) dX7_leader_6 (by decide) (fun q17 => ?_) rfl (fun q17 => ?_)
  · rw [if_pos q17] at h
    refine J_sub [0, 1] (lv1 := [(0, .ref (ad 0 0)), (1, .int x14)]) rfl ?_
    exact kj2 _ h
  · rw [if_neg q17] at h
    refine J_aload_n (i := 0) (q := 0) (pc1 := 10) dX7_leader_9 rfl rfl rfl ?_
    refine J_iload_n (i := 2) (q := 2) (pc1 := 11) dX7_leader_10 rfl rfl rfl ?_
    refine J_iconst (v := 0) (pc1 := 12) dX7_leader_11 (by decide) rfl ?_
    obtain ⟨r19, hc18, h⟩ := gBp_s h
    refine J_callV (As := [.int x15, .int 0]) (ad := ad) (f := 0) (i := 0) (st := []) (st1 := [.int r19]) (pc1 := 15) (kX7_of l D tc sa ad hI x15 0 μ r19 hc18) wcX7_of wlX7_38 eR0 rfl rfl rfl ⟨rfl, rfl, Nat.le_of_ble_eq_true rfl, Nat.le_of_ble_eq_true rfl⟩ ⟨Nat.zero_le _, Nat.zero_le _⟩ (Nat.le_of_ble_eq_true rfl) dX7_leader_12 rfl rfl ?_
    refine J_iconst (v := 1) (pc1 := 16) dX7_leader_15 (by decide) rfl ?_
    obtain ⟨j21, ej21, h⟩ := gJon_s h
    have kj21 : ∀ (x20 : Int32), j21 x20 = some (r, μ') → JR p l e ({ frames := 1, cells := 0, slots := 0, locals := 22 } : Room) s m args below meth c cX7_leader 4 RX7 D tc sa ad sz (some (.int r)) μ' μ 34 [(0, .ref (ad 0 0)), (1, .int x14), (2, .int x15)] [.int x20] := by
      intro x20 h
      rw [ej21] at h
      try dsimp only at h
      refine J_istore_n (i := 3) (lv1 := [(3, .int x20), (0, .ref (ad 0 0)), (1, .int x14), (2, .int x15)]) (pc1 := 35) dX7_leader_34 rfl (by decide) rfl rfl ?_
      refine J_iload_n (i := 3) (q := 0) (pc1 := 36) dX7_leader_35 rfl rfl rfl ?_
      refine J_if_eq (tgt := 62) (pc1 := 39) dX7_leader_36 (by decide) (fun q22 => ?_) rfl (fun q22 => ?_)
      · rw [if_pos q22] at h
        refine J_iload_n (i := 1) (q := 2) (pc1 := 63) dX7_leader_62 rfl rfl rfl ?_
        refine J_istore_n (i := 1) (lv1 := [(1, .int x14), (3, .int x20), (0, .ref (ad 0 0)), (2, .int x15)]) (pc1 := 64) dX7_leader_63 rfl (by decide) rfl rfl ?_
        refine J_iinc (i := 2) (q := 3) (v := x15 + 1) (lv1 := [(2, .int (x15 + 1)), (1, .int x14), (3, .int x20), (0, .ref (ad 0 0))]) (pc1 := 67) dX7_leader_64 rfl rfl (by decide) rfl rfl ?_
        refine J_goto (tgt := 4) dX7_leader_67 (by decide) ?_
        refine J_sub [3, 1, 0] (lv1 := [(0, .ref (ad 0 0)), (1, .int x14), (2, .int (x15 + 1))]) rfl ?_
        exact ihrec16 _ _ h
      · rw [if_neg q22] at h
        refine J_iload_n (i := 1) (q := 2) (pc1 := 40) dX7_leader_39 rfl rfl rfl ?_
        refine J_if_lt (tgt := 58) (pc1 := 43) dX7_leader_40 (by decide) (fun q23 => ?_) rfl (fun q23 => ?_)
        · rw [if_pos q23] at h
          refine J_iload_n (i := 2) (q := 3) (pc1 := 59) dX7_leader_58 rfl rfl rfl ?_
          refine J_goto (tgt := 63) dX7_leader_59 (by decide) ?_
          refine J_istore_n (i := 1) (lv1 := [(1, .int x15), (3, .int x20), (0, .ref (ad 0 0)), (2, .int x15)]) (pc1 := 64) dX7_leader_63 rfl (by decide) rfl rfl ?_
          refine J_iinc (i := 2) (q := 3) (v := x15 + 1) (lv1 := [(2, .int (x15 + 1)), (1, .int x15), (3, .int x20), (0, .ref (ad 0 0))]) (pc1 := 67) dX7_leader_64 rfl rfl (by decide) rfl rfl ?_
          refine J_goto (tgt := 4) dX7_leader_67 (by decide) ?_
          refine J_sub [3, 1, 0] (lv1 := [(0, .ref (ad 0 0)), (1, .int x15), (2, .int (x15 + 1))]) rfl ?_
          exact ihrec16 _ _ h
        · rw [if_neg q23] at h
          refine J_aload_n (i := 0) (q := 1) (pc1 := 44) dX7_leader_43 rfl rfl rfl ?_
          refine J_iload_n (i := 2) (q := 3) (pc1 := 45) dX7_leader_44 rfl rfl rfl ?_
          refine J_iconst (v := 2) (pc1 := 46) dX7_leader_45 (by decide) rfl ?_
          obtain ⟨r25, hc24, h⟩ := gBp_s h
          refine J_callV (As := [.int x15, .int 2]) (ad := ad) (f := 0) (i := 0) (st := []) (st1 := [.int r25]) (pc1 := 49) (kX7_of l D tc sa ad hI x15 2 μ r25 hc24) wcX7_of wlX7_38 eR0 rfl rfl rfl ⟨rfl, rfl, Nat.le_of_ble_eq_true rfl, Nat.le_of_ble_eq_true rfl⟩ ⟨Nat.zero_le _, Nat.zero_le _⟩ (Nat.le_of_ble_eq_true rfl) dX7_leader_46 rfl rfl ?_
          refine J_aload_n (i := 0) (q := 1) (pc1 := 50) dX7_leader_49 rfl rfl rfl ?_
          refine J_iload_n (i := 1) (q := 2) (pc1 := 51) dX7_leader_50 rfl rfl rfl ?_
          refine J_iconst (v := 2) (pc1 := 52) dX7_leader_51 (by decide) rfl ?_
          obtain ⟨r27, hc26, h⟩ := gBp_s h
          refine J_callV (As := [.int x14, .int 2]) (ad := ad) (f := 0) (i := 0) (st := [.int r25]) (st1 := [.int r27, .int r25]) (pc1 := 55) (kX7_of l D tc sa ad hI x14 2 μ r27 hc26) wcX7_of wlX7_38 eR0 rfl rfl rfl ⟨rfl, rfl, Nat.le_of_ble_eq_true rfl, Nat.le_of_ble_eq_true rfl⟩ ⟨Nat.zero_le _, Nat.zero_le _⟩ (Nat.le_of_ble_eq_true rfl) dX7_leader_52 rfl rfl ?_
          obtain ⟨x28, e29, h⟩ := gLet_s h
          have k30 : JR p l e ({ frames := 1, cells := 0, slots := 0, locals := 22 } : Room) s m args below meth c cX7_leader 4 RX7 D tc sa ad sz (some (.int r)) μ' μ 63 [(3, .int x20), (0, .ref (ad 0 0)), (1, .int x14), (2, .int x15)] [.int x28] := by
            refine J_istore_n (i := 1) (lv1 := [(1, .int x28), (3, .int x20), (0, .ref (ad 0 0)), (2, .int x15)]) (pc1 := 64) dX7_leader_63 rfl (by decide) rfl rfl ?_
            refine J_iinc (i := 2) (q := 3) (v := x15 + 1) (lv1 := [(2, .int (x15 + 1)), (1, .int x28), (3, .int x20), (0, .ref (ad 0 0))]) (pc1 := 67) dX7_leader_64 rfl rfl (by decide) rfl rfl ?_
            refine J_goto (tgt := 4) dX7_leader_67 (by decide) ?_
            refine J_sub [3, 1, 0] (lv1 := [(0, .ref (ad 0 0)), (1, .int x28), (2, .int (x15 + 1))]) rfl ?_
            exact ihrec16 _ _ h
          refine J_icmp_le (tgt := 62) (pc1 := 58) dX7_leader_55 (by decide) (fun q31 => ?_) rfl (fun q31 => ?_)
          · rw [if_pos q31] at e29
            subst e29
            refine J_iload_n (i := 1) (q := 2) (pc1 := 63) dX7_leader_62 rfl rfl rfl ?_
            exact k30
          · rw [if_neg q31] at e29
            subst e29
            refine J_iload_n (i := 2) (q := 3) (pc1 := 59) dX7_leader_58 rfl rfl rfl ?_
            refine J_goto (tgt := 63) dX7_leader_59 (by decide) ?_
            exact k30
    clear ej21
    obtain ⟨j32, ej32, h⟩ := gJon_s h
    have kj32 : ∀ (u33 : Unit), j32 u33 = some (r, μ') → JR p l e ({ frames := 1, cells := 0, slots := 0, locals := 22 } : Room) s m args below meth c cX7_leader 4 RX7 D tc sa ad sz (some (.int r)) μ' μ 33 [(0, .ref (ad 0 0)), (1, .int x14), (2, .int x15)] [] := by
      intro u33 h
      rw [ej32] at h
      try dsimp only at h
      refine J_iconst (v := 0) (pc1 := 34) dX7_leader_33 (by decide) rfl ?_
      exact kj21 _ h
    clear ej32
    refine J_icmp_ne (tgt := 33) (pc1 := 19) dX7_leader_16 (by decide) (fun q34 => ?_) rfl (fun q34 => ?_)
    · rw [if_neg q34] at h
      exact kj32 ()  h
    · rw [if_pos q34] at h
      refine J_aload_n (i := 0) (q := 0) (pc1 := 20) dX7_leader_19 rfl rfl rfl ?_
      refine J_iload_n (i := 2) (q := 2) (pc1 := 21) dX7_leader_20 rfl rfl rfl ?_
      refine J_iconst (v := 1) (pc1 := 22) dX7_leader_21 (by decide) rfl ?_
      obtain ⟨r36, hc35, h⟩ := gBp_s h
      refine J_callV (As := [.int x15, .int 1]) (ad := ad) (f := 0) (i := 0) (st := []) (st1 := [.int r36]) (pc1 := 25) (kX7_of l D tc sa ad hI x15 1 μ r36 hc35) wcX7_of wlX7_38 eR0 rfl rfl rfl ⟨rfl, rfl, Nat.le_of_ble_eq_true rfl, Nat.le_of_ble_eq_true rfl⟩ ⟨Nat.zero_le _, Nat.zero_le _⟩ (Nat.le_of_ble_eq_true rfl) dX7_leader_22 rfl rfl ?_
      refine J_iconst (v := 2) (pc1 := 26) dX7_leader_25 (by decide) rfl ?_
      obtain ⟨x37, e38, h⟩ := gLet_s h
      have k39 : JR p l e ({ frames := 1, cells := 0, slots := 0, locals := 22 } : Room) s m args below meth c cX7_leader 4 RX7 D tc sa ad sz (some (.int r)) μ' μ 34 [(0, .ref (ad 0 0)), (1, .int x14), (2, .int x15)] [.int x37] := by
        refine J_istore_n (i := 3) (lv1 := [(3, .int x37), (0, .ref (ad 0 0)), (1, .int x14), (2, .int x15)]) (pc1 := 35) dX7_leader_34 rfl (by decide) rfl rfl ?_
        refine J_iload_n (i := 3) (q := 0) (pc1 := 36) dX7_leader_35 rfl rfl rfl ?_
        refine J_if_eq (tgt := 62) (pc1 := 39) dX7_leader_36 (by decide) (fun q41 => ?_) rfl (fun q41 => ?_)
        · rw [if_pos q41] at h
          refine J_iload_n (i := 1) (q := 2) (pc1 := 63) dX7_leader_62 rfl rfl rfl ?_
          refine J_istore_n (i := 1) (lv1 := [(1, .int x14), (3, .int x37), (0, .ref (ad 0 0)), (2, .int x15)]) (pc1 := 64) dX7_leader_63 rfl (by decide) rfl rfl ?_
          refine J_iinc (i := 2) (q := 3) (v := x15 + 1) (lv1 := [(2, .int (x15 + 1)), (1, .int x14), (3, .int x37), (0, .ref (ad 0 0))]) (pc1 := 67) dX7_leader_64 rfl rfl (by decide) rfl rfl ?_
          refine J_goto (tgt := 4) dX7_leader_67 (by decide) ?_
          refine J_sub [3, 1, 0] (lv1 := [(0, .ref (ad 0 0)), (1, .int x14), (2, .int (x15 + 1))]) rfl ?_
          exact ihrec16 _ _ h
        · rw [if_neg q41] at h
          refine J_iload_n (i := 1) (q := 2) (pc1 := 40) dX7_leader_39 rfl rfl rfl ?_
          refine J_if_lt (tgt := 58) (pc1 := 43) dX7_leader_40 (by decide) (fun q42 => ?_) rfl (fun q42 => ?_)
          · rw [if_pos q42] at h
            refine J_iload_n (i := 2) (q := 3) (pc1 := 59) dX7_leader_58 rfl rfl rfl ?_
            refine J_goto (tgt := 63) dX7_leader_59 (by decide) ?_
            refine J_istore_n (i := 1) (lv1 := [(1, .int x15), (3, .int x37), (0, .ref (ad 0 0)), (2, .int x15)]) (pc1 := 64) dX7_leader_63 rfl (by decide) rfl rfl ?_
            refine J_iinc (i := 2) (q := 3) (v := x15 + 1) (lv1 := [(2, .int (x15 + 1)), (1, .int x15), (3, .int x37), (0, .ref (ad 0 0))]) (pc1 := 67) dX7_leader_64 rfl rfl (by decide) rfl rfl ?_
            refine J_goto (tgt := 4) dX7_leader_67 (by decide) ?_
            refine J_sub [3, 1, 0] (lv1 := [(0, .ref (ad 0 0)), (1, .int x15), (2, .int (x15 + 1))]) rfl ?_
            exact ihrec16 _ _ h
          · rw [if_neg q42] at h
            refine J_aload_n (i := 0) (q := 1) (pc1 := 44) dX7_leader_43 rfl rfl rfl ?_
            refine J_iload_n (i := 2) (q := 3) (pc1 := 45) dX7_leader_44 rfl rfl rfl ?_
            refine J_iconst (v := 2) (pc1 := 46) dX7_leader_45 (by decide) rfl ?_
            obtain ⟨r44, hc43, h⟩ := gBp_s h
            refine J_callV (As := [.int x15, .int 2]) (ad := ad) (f := 0) (i := 0) (st := []) (st1 := [.int r44]) (pc1 := 49) (kX7_of l D tc sa ad hI x15 2 μ r44 hc43) wcX7_of wlX7_38 eR0 rfl rfl rfl ⟨rfl, rfl, Nat.le_of_ble_eq_true rfl, Nat.le_of_ble_eq_true rfl⟩ ⟨Nat.zero_le _, Nat.zero_le _⟩ (Nat.le_of_ble_eq_true rfl) dX7_leader_46 rfl rfl ?_
            refine J_aload_n (i := 0) (q := 1) (pc1 := 50) dX7_leader_49 rfl rfl rfl ?_
            refine J_iload_n (i := 1) (q := 2) (pc1 := 51) dX7_leader_50 rfl rfl rfl ?_
            refine J_iconst (v := 2) (pc1 := 52) dX7_leader_51 (by decide) rfl ?_
            obtain ⟨r46, hc45, h⟩ := gBp_s h
            refine J_callV (As := [.int x14, .int 2]) (ad := ad) (f := 0) (i := 0) (st := [.int r44]) (st1 := [.int r46, .int r44]) (pc1 := 55) (kX7_of l D tc sa ad hI x14 2 μ r46 hc45) wcX7_of wlX7_38 eR0 rfl rfl rfl ⟨rfl, rfl, Nat.le_of_ble_eq_true rfl, Nat.le_of_ble_eq_true rfl⟩ ⟨Nat.zero_le _, Nat.zero_le _⟩ (Nat.le_of_ble_eq_true rfl) dX7_leader_52 rfl rfl ?_
            obtain ⟨x47, e48, h⟩ := gLet_s h
            have k49 : JR p l e ({ frames := 1, cells := 0, slots := 0, locals := 22 } : Room) s m args below meth c cX7_leader 4 RX7 D tc sa ad sz (some (.int r)) μ' μ 63 [(3, .int x37), (0, .ref (ad 0 0)), (1, .int x14), (2, .int x15)] [.int x47] := by
              refine J_istore_n (i := 1) (lv1 := [(1, .int x47), (3, .int x37), (0, .ref (ad 0 0)), (2, .int x15)]) (pc1 := 64) dX7_leader_63 rfl (by decide) rfl rfl ?_
              refine J_iinc (i := 2) (q := 3) (v := x15 + 1) (lv1 := [(2, .int (x15 + 1)), (1, .int x47), (3, .int x37), (0, .ref (ad 0 0))]) (pc1 := 67) dX7_leader_64 rfl rfl (by decide) rfl rfl ?_
              refine J_goto (tgt := 4) dX7_leader_67 (by decide) ?_
              refine J_sub [3, 1, 0] (lv1 := [(0, .ref (ad 0 0)), (1, .int x47), (2, .int (x15 + 1))]) rfl ?_
              exact ihrec16 _ _ h
            refine J_icmp_le (tgt := 62) (pc1 := 58) dX7_leader_55 (by decide) (fun q50 => ?_) rfl (fun q50 => ?_)
            · rw [if_pos q50] at e48
              subst e48
              refine J_iload_n (i := 1) (q := 2) (pc1 := 63) dX7_leader_62 rfl rfl rfl ?_
              exact k49
            · rw [if_neg q50] at e48
              subst e48
              refine J_iload_n (i := 2) (q := 3) (pc1 := 59) dX7_leader_58 rfl rfl rfl ?_
              refine J_goto (tgt := 63) dX7_leader_59 (by decide) ?_
              exact k49
      refine J_icmp_ne (tgt := 33) (pc1 := 29) dX7_leader_26 (by decide) (fun q40 => ?_) rfl (fun q40 => ?_)
      · rw [if_neg q40] at e38
        subst e38
        refine J_iconst (v := 0) (pc1 := 34) dX7_leader_33 (by decide) rfl ?_
        exact k39
      · rw [if_pos q40] at e38
        subst e38
        refine J_iconst (v := 1) (pc1 := 30) dX7_leader_29 (by decide) rfl ?_
        refine J_goto (tgt := 34) dX7_leader_30 (by decide) ?_
        exact k39
def mX7_winner (a1 : Int32) (μ : gM) : Option (Int32 × gM) :=
  gBp (mX7_isBetween a1 0 99 μ) fun r2 =>
  gJon (fun (x3 : Int32) =>
      gLet (α := Int32) (if x3 = 0 then 1 else 0) fun x5 =>
      gBd (mX7_fails 1 x5 μ) fun r10 μ11 =>
      if r10 = 0 then
        gChk (inb (16 + a1) 1616) <|
        some (μ11 1 0 ((16 + a1).toNatClampNeg), μ11)
      else
        some (0, μ11)) fun j4 =>
  gJon (fun (u15 : Unit) =>
      j4 0) fun j14 =>
  if r2 = 0 then
    j14 () 
  else
    gChk (inb (16 + a1) 1616) <|
    gLet (α := Int32) (if (μ 1 0 ((16 + a1).toNatClampNeg)) < 0 then 0 else 1) fun x18 =>
    gLet (α := Int32) (if x18 = 0 then 1 else 0) fun x22 =>
    gBd (mX7_fails 1 x22 μ) fun r27 μ28 =>
    if r27 = 0 then
      gChk (inb (16 + a1) 1616) <|
      some (μ28 1 0 ((16 + a1).toNatClampNeg), μ28)
    else
      some (0, μ28)
set_option maxHeartbeats 4000000 in
set_option maxRecDepth 100000 in
theorem kX7_winner (l : Launch) (D : va_G) (tc : Nat → ClassId) (sa : Nat → Nat) (ad : Nat → Nat → Nat) (hI : gI gE_R ad) (a1 : Int32) (μ : gM) (r : Int32) (μ' : gM) (h : mX7_winner a1 μ = some (r, μ')) : gMet l yX7_winner cX7_winner 3 (some .int) ({ frames := 1, cells := 0, slots := 0, locals := 22 } : Room) D gE_R gkd_R tc ad grh_R sa [.ref (ad 0 0), .int a1] μ (some (.int r)) μ' := by
  refine gMet_of hI ⟨by decide +kernel, Nat.le_of_ble_eq_true rfl⟩ (fun p e s m args below meth c sz hr hlk => ?_)
  unfold mX7_winner at h
  show JR p l e ({ frames := 1, cells := 0, slots := 0, locals := 22 } : Room) s m args below meth c cX7_winner 3 RX7 D tc sa ad sz (some (.int r)) μ' μ 0 [(0, .ref (ad 0 0)), (1, .int a1)] []
  refine J_iload_n (i := 1) (q := 1) (pc1 := 1) dX7_winner_0 rfl rfl rfl ?_
  refine J_iconst (v := 0) (pc1 := 2) dX7_winner_1 (by decide) rfl ?_
  refine J_bipush (v := 99) (pc1 := 4) dX7_winner_2 (by decide) rfl ?_
  obtain ⟨r2, hc1, h⟩ := gBp_s h
  refine J_callS (As := [.int a1, .int 0, .int 99]) (st := []) (st1 := [.int r2]) (pc1 := 7) (kX7_isBetween l D tc sa ad hI a1 0 99 μ r2 hc1) wcX7_isBetween wlX7_34 rfl ⟨rfl, rfl, Nat.le_of_ble_eq_true rfl, Nat.le_of_ble_eq_true rfl⟩ ⟨Nat.zero_le _, Nat.zero_le _⟩ (Nat.le_of_ble_eq_true rfl) dX7_winner_4 rfl rfl ?_
  obtain ⟨j4, ej4, h⟩ := gJon_s h
  have kj4 : ∀ (x3 : Int32), j4 x3 = some (r, μ') → JR p l e ({ frames := 1, cells := 0, slots := 0, locals := 22 } : Room) s m args below meth c cX7_winner 3 RX7 D tc sa ad sz (some (.int r)) μ' μ 27 [(0, .ref (ad 0 0)), (1, .int a1)] [.int x3] := by
    intro x3 h
    rw [ej4] at h
    try dsimp only at h
    refine J_istore_n (i := 2) (lv1 := [(2, .int x3), (0, .ref (ad 0 0)), (1, .int a1)]) (pc1 := 28) dX7_winner_27 rfl (by decide) rfl rfl ?_
    refine J_aload_n (i := 0) (q := 1) (pc1 := 29) dX7_winner_28 rfl rfl rfl ?_
    refine J_iconst (v := 1) (pc1 := 30) dX7_winner_29 (by decide) rfl ?_
    refine J_iload_n (i := 2) (q := 0) (pc1 := 31) dX7_winner_30 rfl rfl rfl ?_
    obtain ⟨x5, e6, h⟩ := gLet_s h
    have k7 : JR p l e ({ frames := 1, cells := 0, slots := 0, locals := 22 } : Room) s m args below meth c cX7_winner 3 RX7 D tc sa ad sz (some (.int r)) μ' μ 39 [(2, .int x3), (0, .ref (ad 0 0)), (1, .int a1)] [.int x5, .int 1, .ref (ad 0 0)] := by
      obtain ⟨r10, μ11, hc9, h⟩ := gBd_s h
      refine J_callV (As := [.int 1, .int x5]) (ad := ad) (f := 0) (i := 0) (st := []) (st1 := [.int r10]) (pc1 := 42) (kX7_fails l D tc sa ad hI 1 x5 μ r10 μ11 hc9) wcX7_fails wlX7_55 eR0 rfl rfl rfl ⟨rfl, rfl, Nat.le_of_ble_eq_true rfl, Nat.le_of_ble_eq_true rfl⟩ ⟨Nat.zero_le _, Nat.zero_le _⟩ (Nat.le_of_ble_eq_true rfl) dX7_winner_39 rfl rfl ?_
      refine J_if_eq (tgt := 49) (pc1 := 45) dX7_winner_42 (by decide) (fun q12 => ?_) rfl (fun q12 => ?_)
      · rw [if_pos q12] at h
        refine J_aload_n (i := 0) (q := 1) (pc1 := 50) dX7_winner_49 rfl rfl rfl ?_
        refine J_getR (T := TX7) (f' := 1) (i' := 0) (pc1 := 53) eR0 rfl rfl inX7 1 (by decide) rfl rfl flX7_9 rfl dX7_winner_50 rfl ?_
        refine J_bipush (v := 16) (pc1 := 55) dX7_winner_53 (by decide) rfl ?_
        refine J_iload_n (i := 1) (q := 2) (pc1 := 56) dX7_winner_55 rfl rfl rfl ?_
        refine J_iadd (pc1 := 57) dX7_winner_56 rfl ?_
        obtain ⟨h13, h⟩ := gChk_s h
        refine J_iald (ix := ((16 + a1).toNatClampNeg)) (pc1 := 58) rfl eR1 rfl h13 dX7_winner_57 rfl ?_
        cases h
        exact J_iret hr hlk dX7_winner_58
      · rw [if_neg q12] at h
        refine J_iconst (v := 0) (pc1 := 46) dX7_winner_45 (by decide) rfl ?_
        refine J_goto (tgt := 58) dX7_winner_46 (by decide) ?_
        cases h
        exact J_iret hr hlk dX7_winner_58
    refine J_if_ne (tgt := 38) (pc1 := 34) dX7_winner_31 (by decide) (fun q8 => ?_) rfl (fun q8 => ?_)
    · rw [if_neg q8] at e6
      subst e6
      refine J_iconst (v := 0) (pc1 := 39) dX7_winner_38 (by decide) rfl ?_
      exact k7
    · rw [if_pos q8] at e6
      subst e6
      refine J_iconst (v := 1) (pc1 := 35) dX7_winner_34 (by decide) rfl ?_
      refine J_goto (tgt := 39) dX7_winner_35 (by decide) ?_
      exact k7
  clear ej4
  obtain ⟨j14, ej14, h⟩ := gJon_s h
  have kj14 : ∀ (u15 : Unit), j14 u15 = some (r, μ') → JR p l e ({ frames := 1, cells := 0, slots := 0, locals := 22 } : Room) s m args below meth c cX7_winner 3 RX7 D tc sa ad sz (some (.int r)) μ' μ 26 [(0, .ref (ad 0 0)), (1, .int a1)] [] := by
    intro u15 h
    rw [ej14] at h
    try dsimp only at h
    refine J_iconst (v := 0) (pc1 := 27) dX7_winner_26 (by decide) rfl ?_
    exact kj4 _ h
  clear ej14
  refine J_if_eq (tgt := 26) (pc1 := 10) dX7_winner_7 (by decide) (fun q16 => ?_) rfl (fun q16 => ?_)
  · rw [if_pos q16] at h
    exact kj14 ()  h
  · rw [if_neg q16] at h
    refine J_aload_n (i := 0) (q := 0) (pc1 := 11) dX7_winner_10 rfl rfl rfl ?_
    refine J_getR (T := TX7) (f' := 1) (i' := 0) (pc1 := 14) eR0 rfl rfl inX7 1 (by decide) rfl rfl flX7_9 rfl dX7_winner_11 rfl ?_
    refine J_bipush (v := 16) (pc1 := 16) dX7_winner_14 (by decide) rfl ?_
    refine J_iload_n (i := 1) (q := 1) (pc1 := 17) dX7_winner_16 rfl rfl rfl ?_
    refine J_iadd (pc1 := 18) dX7_winner_17 rfl ?_
    obtain ⟨h17, h⟩ := gChk_s h
    refine J_iald (ix := ((16 + a1).toNatClampNeg)) (pc1 := 19) rfl eR1 rfl h17 dX7_winner_18 rfl ?_
    obtain ⟨x18, e19, h⟩ := gLet_s h
    have k20 : JR p l e ({ frames := 1, cells := 0, slots := 0, locals := 22 } : Room) s m args below meth c cX7_winner 3 RX7 D tc sa ad sz (some (.int r)) μ' μ 27 [(0, .ref (ad 0 0)), (1, .int a1)] [.int x18] := by
      refine J_istore_n (i := 2) (lv1 := [(2, .int x18), (0, .ref (ad 0 0)), (1, .int a1)]) (pc1 := 28) dX7_winner_27 rfl (by decide) rfl rfl ?_
      refine J_aload_n (i := 0) (q := 1) (pc1 := 29) dX7_winner_28 rfl rfl rfl ?_
      refine J_iconst (v := 1) (pc1 := 30) dX7_winner_29 (by decide) rfl ?_
      refine J_iload_n (i := 2) (q := 0) (pc1 := 31) dX7_winner_30 rfl rfl rfl ?_
      obtain ⟨x22, e23, h⟩ := gLet_s h
      have k24 : JR p l e ({ frames := 1, cells := 0, slots := 0, locals := 22 } : Room) s m args below meth c cX7_winner 3 RX7 D tc sa ad sz (some (.int r)) μ' μ 39 [(2, .int x18), (0, .ref (ad 0 0)), (1, .int a1)] [.int x22, .int 1, .ref (ad 0 0)] := by
        obtain ⟨r27, μ28, hc26, h⟩ := gBd_s h
        refine J_callV (As := [.int 1, .int x22]) (ad := ad) (f := 0) (i := 0) (st := []) (st1 := [.int r27]) (pc1 := 42) (kX7_fails l D tc sa ad hI 1 x22 μ r27 μ28 hc26) wcX7_fails wlX7_55 eR0 rfl rfl rfl ⟨rfl, rfl, Nat.le_of_ble_eq_true rfl, Nat.le_of_ble_eq_true rfl⟩ ⟨Nat.zero_le _, Nat.zero_le _⟩ (Nat.le_of_ble_eq_true rfl) dX7_winner_39 rfl rfl ?_
        refine J_if_eq (tgt := 49) (pc1 := 45) dX7_winner_42 (by decide) (fun q29 => ?_) rfl (fun q29 => ?_)
        · rw [if_pos q29] at h
          refine J_aload_n (i := 0) (q := 1) (pc1 := 50) dX7_winner_49 rfl rfl rfl ?_
          refine J_getR (T := TX7) (f' := 1) (i' := 0) (pc1 := 53) eR0 rfl rfl inX7 1 (by decide) rfl rfl flX7_9 rfl dX7_winner_50 rfl ?_
          refine J_bipush (v := 16) (pc1 := 55) dX7_winner_53 (by decide) rfl ?_
          refine J_iload_n (i := 1) (q := 2) (pc1 := 56) dX7_winner_55 rfl rfl rfl ?_
          refine J_iadd (pc1 := 57) dX7_winner_56 rfl ?_
          obtain ⟨h30, h⟩ := gChk_s h
          refine J_iald (ix := ((16 + a1).toNatClampNeg)) (pc1 := 58) rfl eR1 rfl h30 dX7_winner_57 rfl ?_
          cases h
          exact J_iret hr hlk dX7_winner_58
        · rw [if_neg q29] at h
          refine J_iconst (v := 0) (pc1 := 46) dX7_winner_45 (by decide) rfl ?_
          refine J_goto (tgt := 58) dX7_winner_46 (by decide) ?_
          cases h
          exact J_iret hr hlk dX7_winner_58
      refine J_if_ne (tgt := 38) (pc1 := 34) dX7_winner_31 (by decide) (fun q25 => ?_) rfl (fun q25 => ?_)
      · rw [if_neg q25] at e23
        subst e23
        refine J_iconst (v := 0) (pc1 := 39) dX7_winner_38 (by decide) rfl ?_
        exact k24
      · rw [if_pos q25] at e23
        subst e23
        refine J_iconst (v := 1) (pc1 := 35) dX7_winner_34 (by decide) rfl ?_
        refine J_goto (tgt := 39) dX7_winner_35 (by decide) ?_
        exact k24
    refine J_if_lt (tgt := 26) (pc1 := 22) dX7_winner_19 (by decide) (fun q21 => ?_) rfl (fun q21 => ?_)
    · rw [if_pos q21] at e19
      subst e19
      refine J_iconst (v := 0) (pc1 := 27) dX7_winner_26 (by decide) rfl ?_
      exact k20
    · rw [if_neg q21] at e19
      subst e19
      refine J_iconst (v := 1) (pc1 := 23) dX7_winner_22 (by decide) rfl ?_
      refine J_goto (tgt := 27) dX7_winner_23 (by decide) ?_
      exact k20
def mX7_alike (a1 : Int32) (a2 : Int32) (μ : gM) : Option (Int32 × gM) :=
  gBp (mX7_isNode a1 μ) fun r2 =>
  gJon (fun (x3 : Int32) =>
      gBd (mX7_fails 1 x3 μ) fun r6 μ7 =>
      if r6 = 0 then
        gBp (mX7_of a1 7 μ7) fun r10 =>
        gBp (mX7_of a2 7 μ7) fun r12 =>
        gJon (fun (x13 : Int32) =>
            gBp (mX7_last a1 μ7) fun r16 =>
            gBp (mX7_last a2 μ7) fun r18 =>
            gJon (fun (x19 : Int32) =>
                if x13 ≤ x19 then
                  gJon (fun (x22 : Int32) =>
                      some (x22, μ7)) fun j23 =>
                  gFx1 (fun rec25 (x24 : Int32) =>
                      if x19 ≤ x24 then
                        j23 x24
                      else
                        gBp (mX7_termAt a1 (x24 + 1) μ7) fun r28 =>
                        gBp (mX7_termAt a2 (x24 + 1) μ7) fun r30 =>
                        if r28 = r30 then
                          rec25 (x24 + 1)
                        else
                          j23 x24) 1000000 x13
                else
                  some ((-1), μ7)) fun j20 =>
            if r18 ≤ r16 then
              gBp (mX7_last a2 μ7) fun r34 =>
              j20 r34
            else
              gBp (mX7_last a1 μ7) fun r36 =>
              j20 r36) fun j14 =>
        if r10 ≤ r12 then
          gBp (mX7_of a2 7 μ7) fun r39 =>
          j14 r39
        else
          gBp (mX7_of a1 7 μ7) fun r41 =>
          j14 r41
      else
        some (0, μ7)) fun j4 =>
  gJon (fun (u43 : Unit) =>
      j4 1) fun j42 =>
  if r2 = 0 then
    j42 () 
  else
    gBp (mX7_isNode a2 μ) fun r46 =>
    gLet (α := Int32) (if r46 = 0 then 1 else 0) fun x47 =>
    gBd (mX7_fails 1 x47 μ) fun r52 μ53 =>
    if r52 = 0 then
      gBp (mX7_of a1 7 μ53) fun r56 =>
      gBp (mX7_of a2 7 μ53) fun r58 =>
      gJon (fun (x59 : Int32) =>
          gBp (mX7_last a1 μ53) fun r62 =>
          gBp (mX7_last a2 μ53) fun r64 =>
          gJon (fun (x65 : Int32) =>
              if x59 ≤ x65 then
                gJon (fun (x68 : Int32) =>
                    some (x68, μ53)) fun j69 =>
                gFx1 (fun rec71 (x70 : Int32) =>
                    if x65 ≤ x70 then
                      j69 x70
                    else
                      gBp (mX7_termAt a1 (x70 + 1) μ53) fun r74 =>
                      gBp (mX7_termAt a2 (x70 + 1) μ53) fun r76 =>
                      if r74 = r76 then
                        rec71 (x70 + 1)
                      else
                        j69 x70) 1000000 x59
              else
                some ((-1), μ53)) fun j66 =>
          if r64 ≤ r62 then
            gBp (mX7_last a2 μ53) fun r80 =>
            j66 r80
          else
            gBp (mX7_last a1 μ53) fun r82 =>
            j66 r82) fun j60 =>
      if r56 ≤ r58 then
        gBp (mX7_of a2 7 μ53) fun r85 =>
        j60 r85
      else
        gBp (mX7_of a1 7 μ53) fun r87 =>
        j60 r87
    else
      some (0, μ53)
set_option maxHeartbeats 4000000 in
set_option maxRecDepth 100000 in
theorem kX7_alike (l : Launch) (D : va_G) (tc : Nat → ClassId) (sa : Nat → Nat) (ad : Nat → Nat → Nat) (hI : gI gE_R ad) (a1 : Int32) (a2 : Int32) (μ : gM) (r : Int32) (μ' : gM) (h : mX7_alike a1 a2 μ = some (r, μ')) : gMet l yX7_alike cX7_alike 5 (some .int) ({ frames := 3, cells := 0, slots := 0, locals := 67 } : Room) D gE_R gkd_R tc ad grh_R sa [.ref (ad 0 0), .int a1, .int a2] μ (some (.int r)) μ' := by
  refine gMet_of hI ⟨by decide +kernel, Nat.le_of_ble_eq_true rfl⟩ (fun p e s m args below meth c sz hr hlk => ?_)
  unfold mX7_alike at h
  show JR p l e ({ frames := 3, cells := 0, slots := 0, locals := 67 } : Room) s m args below meth c cX7_alike 5 RX7 D tc sa ad sz (some (.int r)) μ' μ 0 [(0, .ref (ad 0 0)), (1, .int a1), (2, .int a2)] []
  refine J_aload_n (i := 0) (q := 0) (pc1 := 1) dX7_alike_0 rfl rfl rfl ?_
  refine J_iconst (v := 1) (pc1 := 2) dX7_alike_1 (by decide) rfl ?_
  refine J_iload_n (i := 1) (q := 1) (pc1 := 3) dX7_alike_2 rfl rfl rfl ?_
  obtain ⟨r2, hc1, h⟩ := gBp_s h
  refine J_callS (As := [.int a1]) (st := [.int 1, .ref (ad 0 0)]) (st1 := [.int r2, .int 1, .ref (ad 0 0)]) (pc1 := 6) (kX7_isNode l D tc sa ad hI a1 μ r2 hc1) wcX7_isNode wlX7_185 rfl ⟨rfl, rfl, Nat.le_of_ble_eq_true rfl, Nat.le_of_ble_eq_true rfl⟩ ⟨Nat.zero_le _, Nat.zero_le _⟩ (Nat.le_of_ble_eq_true rfl) dX7_alike_3 rfl rfl ?_
  obtain ⟨j4, ej4, h⟩ := gJon_s h
  have kj4 : ∀ (x3 : Int32), j4 x3 = some (r, μ') → JR p l e ({ frames := 3, cells := 0, slots := 0, locals := 67 } : Room) s m args below meth c cX7_alike 5 RX7 D tc sa ad sz (some (.int r)) μ' μ 21 [(0, .ref (ad 0 0)), (1, .int a1), (2, .int a2)] [.int x3, .int 1, .ref (ad 0 0)] := by
    intro x3 h
    rw [ej4] at h
    try dsimp only at h
    obtain ⟨r6, μ7, hc5, h⟩ := gBd_s h
    refine J_callV (As := [.int 1, .int x3]) (ad := ad) (f := 0) (i := 0) (st := []) (st1 := [.int r6]) (pc1 := 24) (kX7_fails l D tc sa ad hI 1 x3 μ r6 μ7 hc5) wcX7_fails wlX7_55 eR0 rfl rfl rfl ⟨rfl, rfl, Nat.le_of_ble_eq_true rfl, Nat.le_of_ble_eq_true rfl⟩ ⟨Nat.zero_le _, Nat.zero_le _⟩ (Nat.le_of_ble_eq_true rfl) dX7_alike_21 rfl rfl ?_
    refine J_if_eq (tgt := 29) (pc1 := 27) dX7_alike_24 (by decide) (fun q8 => ?_) rfl (fun q8 => ?_)
    · rw [if_pos q8] at h
      refine J_aload_n (i := 0) (q := 0) (pc1 := 30) dX7_alike_29 rfl rfl rfl ?_
      refine J_iload_n (i := 1) (q := 1) (pc1 := 31) dX7_alike_30 rfl rfl rfl ?_
      refine J_bipush (v := 7) (pc1 := 33) dX7_alike_31 (by decide) rfl ?_
      obtain ⟨r10, hc9, h⟩ := gBp_s h
      refine J_callV (As := [.int a1, .int 7]) (ad := ad) (f := 0) (i := 0) (st := []) (st1 := [.int r10]) (pc1 := 36) (kX7_of l D tc sa ad hI a1 7 μ7 r10 hc9) wcX7_of wlX7_38 eR0 rfl rfl rfl ⟨rfl, rfl, Nat.le_of_ble_eq_true rfl, Nat.le_of_ble_eq_true rfl⟩ ⟨Nat.zero_le _, Nat.zero_le _⟩ (Nat.le_of_ble_eq_true rfl) dX7_alike_33 rfl rfl ?_
      refine J_aload_n (i := 0) (q := 0) (pc1 := 37) dX7_alike_36 rfl rfl rfl ?_
      refine J_iload_n (i := 2) (q := 2) (pc1 := 38) dX7_alike_37 rfl rfl rfl ?_
      refine J_bipush (v := 7) (pc1 := 40) dX7_alike_38 (by decide) rfl ?_
      obtain ⟨r12, hc11, h⟩ := gBp_s h
      refine J_callV (As := [.int a2, .int 7]) (ad := ad) (f := 0) (i := 0) (st := [.int r10]) (st1 := [.int r12, .int r10]) (pc1 := 43) (kX7_of l D tc sa ad hI a2 7 μ7 r12 hc11) wcX7_of wlX7_38 eR0 rfl rfl rfl ⟨rfl, rfl, Nat.le_of_ble_eq_true rfl, Nat.le_of_ble_eq_true rfl⟩ ⟨Nat.zero_le _, Nat.zero_le _⟩ (Nat.le_of_ble_eq_true rfl) dX7_alike_40 rfl rfl ?_
      obtain ⟨j14, ej14, h⟩ := gJon_s h
      have kj14 : ∀ (x13 : Int32), j14 x13 = some (r, μ') → JR p l e ({ frames := 3, cells := 0, slots := 0, locals := 67 } : Room) s m args below meth c cX7_alike 5 RX7 D tc sa ad sz (some (.int r)) μ' μ7 63 [(0, .ref (ad 0 0)), (1, .int a1), (2, .int a2)] [.int x13] := by
        intro x13 h
        rw [ej14] at h
        try dsimp only at h
        refine J_istore_n (i := 3) (lv1 := [(3, .int x13), (0, .ref (ad 0 0)), (1, .int a1), (2, .int a2)]) (pc1 := 64) dX7_alike_63 rfl (by decide) rfl rfl ?_
        refine J_aload_n (i := 0) (q := 1) (pc1 := 65) dX7_alike_64 rfl rfl rfl ?_
        refine J_iload_n (i := 1) (q := 2) (pc1 := 66) dX7_alike_65 rfl rfl rfl ?_
        obtain ⟨r16, hc15, h⟩ := gBp_s h
        refine J_callV (As := [.int a1]) (ad := ad) (f := 0) (i := 0) (st := []) (st1 := [.int r16]) (pc1 := 69) (kX7_last l D tc sa ad hI a1 μ7 r16 hc15) wcX7_last wlX7_67 eR0 rfl rfl rfl ⟨rfl, rfl, Nat.le_of_ble_eq_true rfl, Nat.le_of_ble_eq_true rfl⟩ ⟨Nat.zero_le _, Nat.zero_le _⟩ (Nat.le_of_ble_eq_true rfl) dX7_alike_66 rfl rfl ?_
        refine J_aload_n (i := 0) (q := 1) (pc1 := 70) dX7_alike_69 rfl rfl rfl ?_
        refine J_iload_n (i := 2) (q := 3) (pc1 := 71) dX7_alike_70 rfl rfl rfl ?_
        obtain ⟨r18, hc17, h⟩ := gBp_s h
        refine J_callV (As := [.int a2]) (ad := ad) (f := 0) (i := 0) (st := [.int r16]) (st1 := [.int r18, .int r16]) (pc1 := 74) (kX7_last l D tc sa ad hI a2 μ7 r18 hc17) wcX7_last wlX7_67 eR0 rfl rfl rfl ⟨rfl, rfl, Nat.le_of_ble_eq_true rfl, Nat.le_of_ble_eq_true rfl⟩ ⟨Nat.zero_le _, Nat.zero_le _⟩ (Nat.le_of_ble_eq_true rfl) dX7_alike_71 rfl rfl ?_
        obtain ⟨j20, ej20, h⟩ := gJon_s h
        have kj20 : ∀ (x19 : Int32), j20 x19 = some (r, μ') → JR p l e ({ frames := 3, cells := 0, slots := 0, locals := 67 } : Room) s m args below meth c cX7_alike 5 RX7 D tc sa ad sz (some (.int r)) μ' μ7 90 [(0, .ref (ad 0 0)), (1, .int a1), (2, .int a2), (3, .int x13)] [.int x19] := by
          intro x19 h
          rw [ej20] at h
          try dsimp only at h
          refine J_istore (i := 4) (lv1 := [(4, .int x19), (0, .ref (ad 0 0)), (1, .int a1), (2, .int a2), (3, .int x13)]) (pc1 := 92) dX7_alike_90 (by decide) rfl rfl ?_
          refine J_iload_n (i := 3) (q := 4) (pc1 := 93) dX7_alike_92 rfl rfl rfl ?_
          refine J_iload (i := 4) (q := 0) (pc1 := 95) dX7_alike_93 rfl rfl ?_
          refine J_icmp_le (tgt := 100) (pc1 := 98) dX7_alike_95 (by decide) (fun q21 => ?_) rfl (fun q21 => ?_)
          · rw [if_pos q21] at h
            obtain ⟨j23, ej23, h⟩ := gJon_s h
            have kj23 : ∀ (x22 : Int32), j23 x22 = some (r, μ') → JR p l e ({ frames := 3, cells := 0, slots := 0, locals := 67 } : Room) s m args below meth c cX7_alike 5 RX7 D tc sa ad sz (some (.int r)) μ' μ7 131 [(3, .int x22)] [] := by
              intro x22 h
              rw [ej23] at h
              try dsimp only at h
              refine J_iload_n (i := 3) (q := 0) (pc1 := 132) dX7_alike_131 rfl rfl rfl ?_
              cases h
              exact J_iret hr hlk dX7_alike_132
            clear ej23
            refine J_sub [1, 2, 3, 4, 0] (lv1 := [(0, .ref (ad 0 0)), (1, .int a1), (2, .int a2), (3, .int x13), (4, .int x19)]) rfl ?_
            refine gFx1_s (P := fun x24 => JR p l e ({ frames := 3, cells := 0, slots := 0, locals := 67 } : Room) s m args below meth c cX7_alike 5 RX7 D tc sa ad sz (some (.int r)) μ' μ7 100 [(0, .ref (ad 0 0)), (1, .int a1), (2, .int a2), (3, .int x24), (4, .int x19)] []) (fun rec25 ihrec25 x24 h => ?_) _ _ h
            try dsimp only at h
            refine J_iload_n (i := 3) (q := 3) (pc1 := 101) dX7_alike_100 rfl rfl rfl ?_
            refine J_iload (i := 4) (q := 4) (pc1 := 103) dX7_alike_101 rfl rfl ?_
            refine J_icmp_ge (tgt := 131) (pc1 := 106) dX7_alike_103 (by decide) (fun q26 => ?_) rfl (fun q26 => ?_)
            · rw [if_pos q26] at h
              refine J_sub [3] (lv1 := [(3, .int x24)]) rfl ?_
              exact kj23 _ h
            · rw [if_neg q26] at h
              refine J_aload_n (i := 0) (q := 0) (pc1 := 107) dX7_alike_106 rfl rfl rfl ?_
              refine J_iload_n (i := 1) (q := 1) (pc1 := 108) dX7_alike_107 rfl rfl rfl ?_
              refine J_iload_n (i := 3) (q := 3) (pc1 := 109) dX7_alike_108 rfl rfl rfl ?_
              refine J_iconst (v := 1) (pc1 := 110) dX7_alike_109 (by decide) rfl ?_
              refine J_iadd (pc1 := 111) dX7_alike_110 rfl ?_
              obtain ⟨r28, hc27, h⟩ := gBp_s h
              refine J_callV (As := [.int a1, .int (x24 + 1)]) (ad := ad) (f := 0) (i := 0) (st := []) (st1 := [.int r28]) (pc1 := 114) (kX7_termAt l D tc sa ad hI a1 (x24 + 1) μ7 r28 hc27) wcX7_termAt wlX7_99 eR0 rfl rfl rfl ⟨rfl, rfl, Nat.le_of_ble_eq_true rfl, Nat.le_of_ble_eq_true rfl⟩ ⟨Nat.zero_le _, Nat.zero_le _⟩ (Nat.le_of_ble_eq_true rfl) dX7_alike_111 rfl rfl ?_
              refine J_aload_n (i := 0) (q := 0) (pc1 := 115) dX7_alike_114 rfl rfl rfl ?_
              refine J_iload_n (i := 2) (q := 2) (pc1 := 116) dX7_alike_115 rfl rfl rfl ?_
              refine J_iload_n (i := 3) (q := 3) (pc1 := 117) dX7_alike_116 rfl rfl rfl ?_
              refine J_iconst (v := 1) (pc1 := 118) dX7_alike_117 (by decide) rfl ?_
              refine J_iadd (pc1 := 119) dX7_alike_118 rfl ?_
              obtain ⟨r30, hc29, h⟩ := gBp_s h
              refine J_callV (As := [.int a2, .int (x24 + 1)]) (ad := ad) (f := 0) (i := 0) (st := [.int r28]) (st1 := [.int r30, .int r28]) (pc1 := 122) (kX7_termAt l D tc sa ad hI a2 (x24 + 1) μ7 r30 hc29) wcX7_termAt wlX7_99 eR0 rfl rfl rfl ⟨rfl, rfl, Nat.le_of_ble_eq_true rfl, Nat.le_of_ble_eq_true rfl⟩ ⟨Nat.zero_le _, Nat.zero_le _⟩ (Nat.le_of_ble_eq_true rfl) dX7_alike_119 rfl rfl ?_
              refine J_icmp_ne (tgt := 131) (pc1 := 125) dX7_alike_122 (by decide) (fun q31 => ?_) rfl (fun q31 => ?_)
              · rw [if_neg q31] at h
                refine J_sub [3] (lv1 := [(3, .int x24)]) rfl ?_
                exact kj23 _ h
              · rw [if_pos q31] at h
                refine J_iinc (i := 3) (q := 3) (v := x24 + 1) (lv1 := [(3, .int (x24 + 1)), (0, .ref (ad 0 0)), (1, .int a1), (2, .int a2), (4, .int x19)]) (pc1 := 128) dX7_alike_125 rfl rfl (by decide) rfl rfl ?_
                refine J_goto (tgt := 100) dX7_alike_128 (by decide) ?_
                refine J_sub [1, 2, 3, 0, 4] (lv1 := [(0, .ref (ad 0 0)), (1, .int a1), (2, .int a2), (3, .int (x24 + 1)), (4, .int x19)]) rfl ?_
                exact ihrec25 _ h
          · rw [if_neg q21] at h
            refine J_iconst (v := (-1)) (pc1 := 99) dX7_alike_98 (by decide) rfl ?_
            cases h
            exact J_iret hr hlk dX7_alike_99
        clear ej20
        refine J_icmp_ge (tgt := 85) (pc1 := 77) dX7_alike_74 (by decide) (fun q32 => ?_) rfl (fun q32 => ?_)
        · rw [if_pos q32] at h
          refine J_aload_n (i := 0) (q := 1) (pc1 := 86) dX7_alike_85 rfl rfl rfl ?_
          refine J_iload_n (i := 2) (q := 3) (pc1 := 87) dX7_alike_86 rfl rfl rfl ?_
          obtain ⟨r34, hc33, h⟩ := gBp_s h
          refine J_callV (As := [.int a2]) (ad := ad) (f := 0) (i := 0) (st := []) (st1 := [.int r34]) (pc1 := 90) (kX7_last l D tc sa ad hI a2 μ7 r34 hc33) wcX7_last wlX7_67 eR0 rfl rfl rfl ⟨rfl, rfl, Nat.le_of_ble_eq_true rfl, Nat.le_of_ble_eq_true rfl⟩ ⟨Nat.zero_le _, Nat.zero_le _⟩ (Nat.le_of_ble_eq_true rfl) dX7_alike_87 rfl rfl ?_
          refine J_sub [1, 2, 3, 0] (lv1 := [(0, .ref (ad 0 0)), (1, .int a1), (2, .int a2), (3, .int x13)]) rfl ?_
          exact kj20 _ h
        · rw [if_neg q32] at h
          refine J_aload_n (i := 0) (q := 1) (pc1 := 78) dX7_alike_77 rfl rfl rfl ?_
          refine J_iload_n (i := 1) (q := 2) (pc1 := 79) dX7_alike_78 rfl rfl rfl ?_
          obtain ⟨r36, hc35, h⟩ := gBp_s h
          refine J_callV (As := [.int a1]) (ad := ad) (f := 0) (i := 0) (st := []) (st1 := [.int r36]) (pc1 := 82) (kX7_last l D tc sa ad hI a1 μ7 r36 hc35) wcX7_last wlX7_67 eR0 rfl rfl rfl ⟨rfl, rfl, Nat.le_of_ble_eq_true rfl, Nat.le_of_ble_eq_true rfl⟩ ⟨Nat.zero_le _, Nat.zero_le _⟩ (Nat.le_of_ble_eq_true rfl) dX7_alike_79 rfl rfl ?_
          refine J_goto (tgt := 90) dX7_alike_82 (by decide) ?_
          refine J_sub [1, 2, 3, 0] (lv1 := [(0, .ref (ad 0 0)), (1, .int a1), (2, .int a2), (3, .int x13)]) rfl ?_
          exact kj20 _ h
      clear ej14
      refine J_icmp_le (tgt := 56) (pc1 := 46) dX7_alike_43 (by decide) (fun q37 => ?_) rfl (fun q37 => ?_)
      · rw [if_pos q37] at h
        refine J_aload_n (i := 0) (q := 0) (pc1 := 57) dX7_alike_56 rfl rfl rfl ?_
        refine J_iload_n (i := 2) (q := 2) (pc1 := 58) dX7_alike_57 rfl rfl rfl ?_
        refine J_bipush (v := 7) (pc1 := 60) dX7_alike_58 (by decide) rfl ?_
        obtain ⟨r39, hc38, h⟩ := gBp_s h
        refine J_callV (As := [.int a2, .int 7]) (ad := ad) (f := 0) (i := 0) (st := []) (st1 := [.int r39]) (pc1 := 63) (kX7_of l D tc sa ad hI a2 7 μ7 r39 hc38) wcX7_of wlX7_38 eR0 rfl rfl rfl ⟨rfl, rfl, Nat.le_of_ble_eq_true rfl, Nat.le_of_ble_eq_true rfl⟩ ⟨Nat.zero_le _, Nat.zero_le _⟩ (Nat.le_of_ble_eq_true rfl) dX7_alike_60 rfl rfl ?_
        exact kj14 _ h
      · rw [if_neg q37] at h
        refine J_aload_n (i := 0) (q := 0) (pc1 := 47) dX7_alike_46 rfl rfl rfl ?_
        refine J_iload_n (i := 1) (q := 1) (pc1 := 48) dX7_alike_47 rfl rfl rfl ?_
        refine J_bipush (v := 7) (pc1 := 50) dX7_alike_48 (by decide) rfl ?_
        obtain ⟨r41, hc40, h⟩ := gBp_s h
        refine J_callV (As := [.int a1, .int 7]) (ad := ad) (f := 0) (i := 0) (st := []) (st1 := [.int r41]) (pc1 := 53) (kX7_of l D tc sa ad hI a1 7 μ7 r41 hc40) wcX7_of wlX7_38 eR0 rfl rfl rfl ⟨rfl, rfl, Nat.le_of_ble_eq_true rfl, Nat.le_of_ble_eq_true rfl⟩ ⟨Nat.zero_le _, Nat.zero_le _⟩ (Nat.le_of_ble_eq_true rfl) dX7_alike_50 rfl rfl ?_
        refine J_goto (tgt := 63) dX7_alike_53 (by decide) ?_
        exact kj14 _ h
    · rw [if_neg q8] at h
      refine J_iconst (v := 0) (pc1 := 28) dX7_alike_27 (by decide) rfl ?_
      cases h
      exact J_iret hr hlk dX7_alike_28
  clear ej4
  obtain ⟨j42, ej42, h⟩ := gJon_s h
  have kj42 : ∀ (u43 : Unit), j42 u43 = some (r, μ') → JR p l e ({ frames := 3, cells := 0, slots := 0, locals := 67 } : Room) s m args below meth c cX7_alike 5 RX7 D tc sa ad sz (some (.int r)) μ' μ 16 [(0, .ref (ad 0 0)), (1, .int a1), (2, .int a2)] [.int 1, .ref (ad 0 0)] := by
    intro u43 h
    rw [ej42] at h
    try dsimp only at h
    refine J_iconst (v := 1) (pc1 := 17) dX7_alike_16 (by decide) rfl ?_
    refine J_goto (tgt := 21) dX7_alike_17 (by decide) ?_
    exact kj4 _ h
  clear ej42
  refine J_if_eq (tgt := 16) (pc1 := 9) dX7_alike_6 (by decide) (fun q44 => ?_) rfl (fun q44 => ?_)
  · rw [if_pos q44] at h
    exact kj42 ()  h
  · rw [if_neg q44] at h
    refine J_iload_n (i := 2) (q := 2) (pc1 := 10) dX7_alike_9 rfl rfl rfl ?_
    obtain ⟨r46, hc45, h⟩ := gBp_s h
    refine J_callS (As := [.int a2]) (st := [.int 1, .ref (ad 0 0)]) (st1 := [.int r46, .int 1, .ref (ad 0 0)]) (pc1 := 13) (kX7_isNode l D tc sa ad hI a2 μ r46 hc45) wcX7_isNode wlX7_185 rfl ⟨rfl, rfl, Nat.le_of_ble_eq_true rfl, Nat.le_of_ble_eq_true rfl⟩ ⟨Nat.zero_le _, Nat.zero_le _⟩ (Nat.le_of_ble_eq_true rfl) dX7_alike_10 rfl rfl ?_
    obtain ⟨x47, e48, h⟩ := gLet_s h
    have k49 : JR p l e ({ frames := 3, cells := 0, slots := 0, locals := 67 } : Room) s m args below meth c cX7_alike 5 RX7 D tc sa ad sz (some (.int r)) μ' μ 21 [(0, .ref (ad 0 0)), (1, .int a1), (2, .int a2)] [.int x47, .int 1, .ref (ad 0 0)] := by
      obtain ⟨r52, μ53, hc51, h⟩ := gBd_s h
      refine J_callV (As := [.int 1, .int x47]) (ad := ad) (f := 0) (i := 0) (st := []) (st1 := [.int r52]) (pc1 := 24) (kX7_fails l D tc sa ad hI 1 x47 μ r52 μ53 hc51) wcX7_fails wlX7_55 eR0 rfl rfl rfl ⟨rfl, rfl, Nat.le_of_ble_eq_true rfl, Nat.le_of_ble_eq_true rfl⟩ ⟨Nat.zero_le _, Nat.zero_le _⟩ (Nat.le_of_ble_eq_true rfl) dX7_alike_21 rfl rfl ?_
      refine J_if_eq (tgt := 29) (pc1 := 27) dX7_alike_24 (by decide) (fun q54 => ?_) rfl (fun q54 => ?_)
      · rw [if_pos q54] at h
        refine J_aload_n (i := 0) (q := 0) (pc1 := 30) dX7_alike_29 rfl rfl rfl ?_
        refine J_iload_n (i := 1) (q := 1) (pc1 := 31) dX7_alike_30 rfl rfl rfl ?_
        refine J_bipush (v := 7) (pc1 := 33) dX7_alike_31 (by decide) rfl ?_
        obtain ⟨r56, hc55, h⟩ := gBp_s h
        refine J_callV (As := [.int a1, .int 7]) (ad := ad) (f := 0) (i := 0) (st := []) (st1 := [.int r56]) (pc1 := 36) (kX7_of l D tc sa ad hI a1 7 μ53 r56 hc55) wcX7_of wlX7_38 eR0 rfl rfl rfl ⟨rfl, rfl, Nat.le_of_ble_eq_true rfl, Nat.le_of_ble_eq_true rfl⟩ ⟨Nat.zero_le _, Nat.zero_le _⟩ (Nat.le_of_ble_eq_true rfl) dX7_alike_33 rfl rfl ?_
        refine J_aload_n (i := 0) (q := 0) (pc1 := 37) dX7_alike_36 rfl rfl rfl ?_
        refine J_iload_n (i := 2) (q := 2) (pc1 := 38) dX7_alike_37 rfl rfl rfl ?_
        refine J_bipush (v := 7) (pc1 := 40) dX7_alike_38 (by decide) rfl ?_
        obtain ⟨r58, hc57, h⟩ := gBp_s h
        refine J_callV (As := [.int a2, .int 7]) (ad := ad) (f := 0) (i := 0) (st := [.int r56]) (st1 := [.int r58, .int r56]) (pc1 := 43) (kX7_of l D tc sa ad hI a2 7 μ53 r58 hc57) wcX7_of wlX7_38 eR0 rfl rfl rfl ⟨rfl, rfl, Nat.le_of_ble_eq_true rfl, Nat.le_of_ble_eq_true rfl⟩ ⟨Nat.zero_le _, Nat.zero_le _⟩ (Nat.le_of_ble_eq_true rfl) dX7_alike_40 rfl rfl ?_
        obtain ⟨j60, ej60, h⟩ := gJon_s h
        have kj60 : ∀ (x59 : Int32), j60 x59 = some (r, μ') → JR p l e ({ frames := 3, cells := 0, slots := 0, locals := 67 } : Room) s m args below meth c cX7_alike 5 RX7 D tc sa ad sz (some (.int r)) μ' μ53 63 [(0, .ref (ad 0 0)), (1, .int a1), (2, .int a2)] [.int x59] := by
          intro x59 h
          rw [ej60] at h
          try dsimp only at h
          refine J_istore_n (i := 3) (lv1 := [(3, .int x59), (0, .ref (ad 0 0)), (1, .int a1), (2, .int a2)]) (pc1 := 64) dX7_alike_63 rfl (by decide) rfl rfl ?_
          refine J_aload_n (i := 0) (q := 1) (pc1 := 65) dX7_alike_64 rfl rfl rfl ?_
          refine J_iload_n (i := 1) (q := 2) (pc1 := 66) dX7_alike_65 rfl rfl rfl ?_
          obtain ⟨r62, hc61, h⟩ := gBp_s h
          refine J_callV (As := [.int a1]) (ad := ad) (f := 0) (i := 0) (st := []) (st1 := [.int r62]) (pc1 := 69) (kX7_last l D tc sa ad hI a1 μ53 r62 hc61) wcX7_last wlX7_67 eR0 rfl rfl rfl ⟨rfl, rfl, Nat.le_of_ble_eq_true rfl, Nat.le_of_ble_eq_true rfl⟩ ⟨Nat.zero_le _, Nat.zero_le _⟩ (Nat.le_of_ble_eq_true rfl) dX7_alike_66 rfl rfl ?_
          refine J_aload_n (i := 0) (q := 1) (pc1 := 70) dX7_alike_69 rfl rfl rfl ?_
          refine J_iload_n (i := 2) (q := 3) (pc1 := 71) dX7_alike_70 rfl rfl rfl ?_
          obtain ⟨r64, hc63, h⟩ := gBp_s h
          refine J_callV (As := [.int a2]) (ad := ad) (f := 0) (i := 0) (st := [.int r62]) (st1 := [.int r64, .int r62]) (pc1 := 74) (kX7_last l D tc sa ad hI a2 μ53 r64 hc63) wcX7_last wlX7_67 eR0 rfl rfl rfl ⟨rfl, rfl, Nat.le_of_ble_eq_true rfl, Nat.le_of_ble_eq_true rfl⟩ ⟨Nat.zero_le _, Nat.zero_le _⟩ (Nat.le_of_ble_eq_true rfl) dX7_alike_71 rfl rfl ?_
          obtain ⟨j66, ej66, h⟩ := gJon_s h
          have kj66 : ∀ (x65 : Int32), j66 x65 = some (r, μ') → JR p l e ({ frames := 3, cells := 0, slots := 0, locals := 67 } : Room) s m args below meth c cX7_alike 5 RX7 D tc sa ad sz (some (.int r)) μ' μ53 90 [(0, .ref (ad 0 0)), (1, .int a1), (2, .int a2), (3, .int x59)] [.int x65] := by
            intro x65 h
            rw [ej66] at h
            try dsimp only at h
            refine J_istore (i := 4) (lv1 := [(4, .int x65), (0, .ref (ad 0 0)), (1, .int a1), (2, .int a2), (3, .int x59)]) (pc1 := 92) dX7_alike_90 (by decide) rfl rfl ?_
            refine J_iload_n (i := 3) (q := 4) (pc1 := 93) dX7_alike_92 rfl rfl rfl ?_
            refine J_iload (i := 4) (q := 0) (pc1 := 95) dX7_alike_93 rfl rfl ?_
            refine J_icmp_le (tgt := 100) (pc1 := 98) dX7_alike_95 (by decide) (fun q67 => ?_) rfl (fun q67 => ?_)
            · rw [if_pos q67] at h
              obtain ⟨j69, ej69, h⟩ := gJon_s h
              have kj69 : ∀ (x68 : Int32), j69 x68 = some (r, μ') → JR p l e ({ frames := 3, cells := 0, slots := 0, locals := 67 } : Room) s m args below meth c cX7_alike 5 RX7 D tc sa ad sz (some (.int r)) μ' μ53 131 [(3, .int x68)] [] := by
                intro x68 h
                rw [ej69] at h
                try dsimp only at h
                refine J_iload_n (i := 3) (q := 0) (pc1 := 132) dX7_alike_131 rfl rfl rfl ?_
                cases h
                exact J_iret hr hlk dX7_alike_132
              clear ej69
              refine J_sub [1, 2, 3, 4, 0] (lv1 := [(0, .ref (ad 0 0)), (1, .int a1), (2, .int a2), (3, .int x59), (4, .int x65)]) rfl ?_
              refine gFx1_s (P := fun x70 => JR p l e ({ frames := 3, cells := 0, slots := 0, locals := 67 } : Room) s m args below meth c cX7_alike 5 RX7 D tc sa ad sz (some (.int r)) μ' μ53 100 [(0, .ref (ad 0 0)), (1, .int a1), (2, .int a2), (3, .int x70), (4, .int x65)] []) (fun rec71 ihrec71 x70 h => ?_) _ _ h
              try dsimp only at h
              refine J_iload_n (i := 3) (q := 3) (pc1 := 101) dX7_alike_100 rfl rfl rfl ?_
              refine J_iload (i := 4) (q := 4) (pc1 := 103) dX7_alike_101 rfl rfl ?_
              refine J_icmp_ge (tgt := 131) (pc1 := 106) dX7_alike_103 (by decide) (fun q72 => ?_) rfl (fun q72 => ?_)
              · rw [if_pos q72] at h
                refine J_sub [3] (lv1 := [(3, .int x70)]) rfl ?_
                exact kj69 _ h
              · rw [if_neg q72] at h
                refine J_aload_n (i := 0) (q := 0) (pc1 := 107) dX7_alike_106 rfl rfl rfl ?_
                refine J_iload_n (i := 1) (q := 1) (pc1 := 108) dX7_alike_107 rfl rfl rfl ?_
                refine J_iload_n (i := 3) (q := 3) (pc1 := 109) dX7_alike_108 rfl rfl rfl ?_
                refine J_iconst (v := 1) (pc1 := 110) dX7_alike_109 (by decide) rfl ?_
                refine J_iadd (pc1 := 111) dX7_alike_110 rfl ?_
                obtain ⟨r74, hc73, h⟩ := gBp_s h
                refine J_callV (As := [.int a1, .int (x70 + 1)]) (ad := ad) (f := 0) (i := 0) (st := []) (st1 := [.int r74]) (pc1 := 114) (kX7_termAt l D tc sa ad hI a1 (x70 + 1) μ53 r74 hc73) wcX7_termAt wlX7_99 eR0 rfl rfl rfl ⟨rfl, rfl, Nat.le_of_ble_eq_true rfl, Nat.le_of_ble_eq_true rfl⟩ ⟨Nat.zero_le _, Nat.zero_le _⟩ (Nat.le_of_ble_eq_true rfl) dX7_alike_111 rfl rfl ?_
                refine J_aload_n (i := 0) (q := 0) (pc1 := 115) dX7_alike_114 rfl rfl rfl ?_
                refine J_iload_n (i := 2) (q := 2) (pc1 := 116) dX7_alike_115 rfl rfl rfl ?_
                refine J_iload_n (i := 3) (q := 3) (pc1 := 117) dX7_alike_116 rfl rfl rfl ?_
                refine J_iconst (v := 1) (pc1 := 118) dX7_alike_117 (by decide) rfl ?_
                refine J_iadd (pc1 := 119) dX7_alike_118 rfl ?_
                obtain ⟨r76, hc75, h⟩ := gBp_s h
                refine J_callV (As := [.int a2, .int (x70 + 1)]) (ad := ad) (f := 0) (i := 0) (st := [.int r74]) (st1 := [.int r76, .int r74]) (pc1 := 122) (kX7_termAt l D tc sa ad hI a2 (x70 + 1) μ53 r76 hc75) wcX7_termAt wlX7_99 eR0 rfl rfl rfl ⟨rfl, rfl, Nat.le_of_ble_eq_true rfl, Nat.le_of_ble_eq_true rfl⟩ ⟨Nat.zero_le _, Nat.zero_le _⟩ (Nat.le_of_ble_eq_true rfl) dX7_alike_119 rfl rfl ?_
                refine J_icmp_ne (tgt := 131) (pc1 := 125) dX7_alike_122 (by decide) (fun q77 => ?_) rfl (fun q77 => ?_)
                · rw [if_neg q77] at h
                  refine J_sub [3] (lv1 := [(3, .int x70)]) rfl ?_
                  exact kj69 _ h
                · rw [if_pos q77] at h
                  refine J_iinc (i := 3) (q := 3) (v := x70 + 1) (lv1 := [(3, .int (x70 + 1)), (0, .ref (ad 0 0)), (1, .int a1), (2, .int a2), (4, .int x65)]) (pc1 := 128) dX7_alike_125 rfl rfl (by decide) rfl rfl ?_
                  refine J_goto (tgt := 100) dX7_alike_128 (by decide) ?_
                  refine J_sub [1, 2, 3, 0, 4] (lv1 := [(0, .ref (ad 0 0)), (1, .int a1), (2, .int a2), (3, .int (x70 + 1)), (4, .int x65)]) rfl ?_
                  exact ihrec71 _ h
            · rw [if_neg q67] at h
              refine J_iconst (v := (-1)) (pc1 := 99) dX7_alike_98 (by decide) rfl ?_
              cases h
              exact J_iret hr hlk dX7_alike_99
          clear ej66
          refine J_icmp_ge (tgt := 85) (pc1 := 77) dX7_alike_74 (by decide) (fun q78 => ?_) rfl (fun q78 => ?_)
          · rw [if_pos q78] at h
            refine J_aload_n (i := 0) (q := 1) (pc1 := 86) dX7_alike_85 rfl rfl rfl ?_
            refine J_iload_n (i := 2) (q := 3) (pc1 := 87) dX7_alike_86 rfl rfl rfl ?_
            obtain ⟨r80, hc79, h⟩ := gBp_s h
            refine J_callV (As := [.int a2]) (ad := ad) (f := 0) (i := 0) (st := []) (st1 := [.int r80]) (pc1 := 90) (kX7_last l D tc sa ad hI a2 μ53 r80 hc79) wcX7_last wlX7_67 eR0 rfl rfl rfl ⟨rfl, rfl, Nat.le_of_ble_eq_true rfl, Nat.le_of_ble_eq_true rfl⟩ ⟨Nat.zero_le _, Nat.zero_le _⟩ (Nat.le_of_ble_eq_true rfl) dX7_alike_87 rfl rfl ?_
            refine J_sub [1, 2, 3, 0] (lv1 := [(0, .ref (ad 0 0)), (1, .int a1), (2, .int a2), (3, .int x59)]) rfl ?_
            exact kj66 _ h
          · rw [if_neg q78] at h
            refine J_aload_n (i := 0) (q := 1) (pc1 := 78) dX7_alike_77 rfl rfl rfl ?_
            refine J_iload_n (i := 1) (q := 2) (pc1 := 79) dX7_alike_78 rfl rfl rfl ?_
            obtain ⟨r82, hc81, h⟩ := gBp_s h
            refine J_callV (As := [.int a1]) (ad := ad) (f := 0) (i := 0) (st := []) (st1 := [.int r82]) (pc1 := 82) (kX7_last l D tc sa ad hI a1 μ53 r82 hc81) wcX7_last wlX7_67 eR0 rfl rfl rfl ⟨rfl, rfl, Nat.le_of_ble_eq_true rfl, Nat.le_of_ble_eq_true rfl⟩ ⟨Nat.zero_le _, Nat.zero_le _⟩ (Nat.le_of_ble_eq_true rfl) dX7_alike_79 rfl rfl ?_
            refine J_goto (tgt := 90) dX7_alike_82 (by decide) ?_
            refine J_sub [1, 2, 3, 0] (lv1 := [(0, .ref (ad 0 0)), (1, .int a1), (2, .int a2), (3, .int x59)]) rfl ?_
            exact kj66 _ h
        clear ej60
        refine J_icmp_le (tgt := 56) (pc1 := 46) dX7_alike_43 (by decide) (fun q83 => ?_) rfl (fun q83 => ?_)
        · rw [if_pos q83] at h
          refine J_aload_n (i := 0) (q := 0) (pc1 := 57) dX7_alike_56 rfl rfl rfl ?_
          refine J_iload_n (i := 2) (q := 2) (pc1 := 58) dX7_alike_57 rfl rfl rfl ?_
          refine J_bipush (v := 7) (pc1 := 60) dX7_alike_58 (by decide) rfl ?_
          obtain ⟨r85, hc84, h⟩ := gBp_s h
          refine J_callV (As := [.int a2, .int 7]) (ad := ad) (f := 0) (i := 0) (st := []) (st1 := [.int r85]) (pc1 := 63) (kX7_of l D tc sa ad hI a2 7 μ53 r85 hc84) wcX7_of wlX7_38 eR0 rfl rfl rfl ⟨rfl, rfl, Nat.le_of_ble_eq_true rfl, Nat.le_of_ble_eq_true rfl⟩ ⟨Nat.zero_le _, Nat.zero_le _⟩ (Nat.le_of_ble_eq_true rfl) dX7_alike_60 rfl rfl ?_
          exact kj60 _ h
        · rw [if_neg q83] at h
          refine J_aload_n (i := 0) (q := 0) (pc1 := 47) dX7_alike_46 rfl rfl rfl ?_
          refine J_iload_n (i := 1) (q := 1) (pc1 := 48) dX7_alike_47 rfl rfl rfl ?_
          refine J_bipush (v := 7) (pc1 := 50) dX7_alike_48 (by decide) rfl ?_
          obtain ⟨r87, hc86, h⟩ := gBp_s h
          refine J_callV (As := [.int a1, .int 7]) (ad := ad) (f := 0) (i := 0) (st := []) (st1 := [.int r87]) (pc1 := 53) (kX7_of l D tc sa ad hI a1 7 μ53 r87 hc86) wcX7_of wlX7_38 eR0 rfl rfl rfl ⟨rfl, rfl, Nat.le_of_ble_eq_true rfl, Nat.le_of_ble_eq_true rfl⟩ ⟨Nat.zero_le _, Nat.zero_le _⟩ (Nat.le_of_ble_eq_true rfl) dX7_alike_50 rfl rfl ?_
          refine J_goto (tgt := 63) dX7_alike_53 (by decide) ?_
          exact kj60 _ h
      · rw [if_neg q54] at h
        refine J_iconst (v := 0) (pc1 := 28) dX7_alike_27 (by decide) rfl ?_
        cases h
        exact J_iret hr hlk dX7_alike_28
    refine J_if_ne (tgt := 20) (pc1 := 16) dX7_alike_13 (by decide) (fun q50 => ?_) rfl (fun q50 => ?_)
    · rw [if_neg q50] at e48
      subst e48
      refine J_iconst (v := 0) (pc1 := 21) dX7_alike_20 (by decide) rfl ?_
      exact k49
    · rw [if_pos q50] at e48
      subst e48
      refine J_iconst (v := 1) (pc1 := 17) dX7_alike_16 (by decide) rfl ?_
      refine J_goto (tgt := 21) dX7_alike_17 (by decide) ?_
      exact k49
def mX7_statistic (a1 : Int32) (μ : gM) : Option (Int32 × gM) :=
  gBp (mX7_isBetween a1 0 6 μ) fun r2 =>
  gLet (α := Int32) (if r2 = 0 then 1 else 0) fun x3 =>
  gBd (mX7_fails 1 x3 μ) fun r8 μ9 =>
  if r8 = 0 then
    if a1 = 0 then
      some (μ9 1 0 0, μ9)
    else
      gChk (inb (9 + a1) 1616) <|
      some (μ9 1 0 ((9 + a1).toNatClampNeg), μ9)
  else
    some (0, μ9)
set_option maxHeartbeats 4000000 in
set_option maxRecDepth 100000 in
theorem kX7_statistic (l : Launch) (D : va_G) (tc : Nat → ClassId) (sa : Nat → Nat) (ad : Nat → Nat → Nat) (hI : gI gE_R ad) (a1 : Int32) (μ : gM) (r : Int32) (μ' : gM) (h : mX7_statistic a1 μ = some (r, μ')) : gMet l yX7_statistic cX7_statistic 2 (some .int) ({ frames := 1, cells := 0, slots := 0, locals := 22 } : Room) D gE_R gkd_R tc ad grh_R sa [.ref (ad 0 0), .int a1] μ (some (.int r)) μ' := by
  refine gMet_of hI ⟨by decide +kernel, Nat.le_of_ble_eq_true rfl⟩ (fun p e s m args below meth c sz hr hlk => ?_)
  unfold mX7_statistic at h
  show JR p l e ({ frames := 1, cells := 0, slots := 0, locals := 22 } : Room) s m args below meth c cX7_statistic 2 RX7 D tc sa ad sz (some (.int r)) μ' μ 0 [(0, .ref (ad 0 0)), (1, .int a1)] []
  refine J_aload_n (i := 0) (q := 0) (pc1 := 1) dX7_statistic_0 rfl rfl rfl ?_
  refine J_iconst (v := 1) (pc1 := 2) dX7_statistic_1 (by decide) rfl ?_
  refine J_iload_n (i := 1) (q := 1) (pc1 := 3) dX7_statistic_2 rfl rfl rfl ?_
  refine J_iconst (v := 0) (pc1 := 4) dX7_statistic_3 (by decide) rfl ?_
  refine J_bipush (v := 6) (pc1 := 6) dX7_statistic_4 (by decide) rfl ?_
  obtain ⟨r2, hc1, h⟩ := gBp_s h
  refine J_callS (As := [.int a1, .int 0, .int 6]) (st := [.int 1, .ref (ad 0 0)]) (st1 := [.int r2, .int 1, .ref (ad 0 0)]) (pc1 := 9) (kX7_isBetween l D tc sa ad hI a1 0 6 μ r2 hc1) wcX7_isBetween wlX7_34 rfl ⟨rfl, rfl, Nat.le_of_ble_eq_true rfl, Nat.le_of_ble_eq_true rfl⟩ ⟨Nat.zero_le _, Nat.zero_le _⟩ (Nat.le_of_ble_eq_true rfl) dX7_statistic_6 rfl rfl ?_
  obtain ⟨x3, e4, h⟩ := gLet_s h
  have k5 : JR p l e ({ frames := 1, cells := 0, slots := 0, locals := 22 } : Room) s m args below meth c cX7_statistic 2 RX7 D tc sa ad sz (some (.int r)) μ' μ 17 [(0, .ref (ad 0 0)), (1, .int a1)] [.int x3, .int 1, .ref (ad 0 0)] := by
    obtain ⟨r8, μ9, hc7, h⟩ := gBd_s h
    refine J_callV (As := [.int 1, .int x3]) (ad := ad) (f := 0) (i := 0) (st := []) (st1 := [.int r8]) (pc1 := 20) (kX7_fails l D tc sa ad hI 1 x3 μ r8 μ9 hc7) wcX7_fails wlX7_55 eR0 rfl rfl rfl ⟨rfl, rfl, Nat.le_of_ble_eq_true rfl, Nat.le_of_ble_eq_true rfl⟩ ⟨Nat.zero_le _, Nat.zero_le _⟩ (Nat.le_of_ble_eq_true rfl) dX7_statistic_17 rfl rfl ?_
    refine J_if_eq (tgt := 25) (pc1 := 23) dX7_statistic_20 (by decide) (fun q10 => ?_) rfl (fun q10 => ?_)
    · rw [if_pos q10] at h
      refine J_iload_n (i := 1) (q := 1) (pc1 := 26) dX7_statistic_25 rfl rfl rfl ?_
      refine J_if_ne (tgt := 38) (pc1 := 29) dX7_statistic_26 (by decide) (fun q11 => ?_) rfl (fun q11 => ?_)
      · rw [if_neg q11] at h
        refine J_aload_n (i := 0) (q := 0) (pc1 := 39) dX7_statistic_38 rfl rfl rfl ?_
        refine J_getR (T := TX7) (f' := 1) (i' := 0) (pc1 := 42) eR0 rfl rfl inX7 1 (by decide) rfl rfl flX7_9 rfl dX7_statistic_39 rfl ?_
        refine J_bipush (v := 9) (pc1 := 44) dX7_statistic_42 (by decide) rfl ?_
        refine J_iload_n (i := 1) (q := 1) (pc1 := 45) dX7_statistic_44 rfl rfl rfl ?_
        refine J_iadd (pc1 := 46) dX7_statistic_45 rfl ?_
        obtain ⟨h12, h⟩ := gChk_s h
        refine J_iald (ix := ((9 + a1).toNatClampNeg)) (pc1 := 47) rfl eR1 rfl h12 dX7_statistic_46 rfl ?_
        cases h
        exact J_iret hr hlk dX7_statistic_47
      · rw [if_pos q11] at h
        refine J_aload_n (i := 0) (q := 0) (pc1 := 30) dX7_statistic_29 rfl rfl rfl ?_
        refine J_getR (T := TX7) (f' := 1) (i' := 0) (pc1 := 33) eR0 rfl rfl inX7 1 (by decide) rfl rfl flX7_9 rfl dX7_statistic_30 rfl ?_
        refine J_iconst (v := 0) (pc1 := 34) dX7_statistic_33 (by decide) rfl ?_
        refine J_iald (ix := 0) (pc1 := 35) (by decide) eR1 rfl (by decide : inb 0 1616) dX7_statistic_34 rfl ?_
        refine J_goto (tgt := 47) dX7_statistic_35 (by decide) ?_
        cases h
        exact J_iret hr hlk dX7_statistic_47
    · rw [if_neg q10] at h
      refine J_iconst (v := 0) (pc1 := 24) dX7_statistic_23 (by decide) rfl ?_
      cases h
      exact J_iret hr hlk dX7_statistic_24
  refine J_if_ne (tgt := 16) (pc1 := 12) dX7_statistic_9 (by decide) (fun q6 => ?_) rfl (fun q6 => ?_)
  · rw [if_neg q6] at e4
    subst e4
    refine J_iconst (v := 0) (pc1 := 17) dX7_statistic_16 (by decide) rfl ?_
    exact k5
  · rw [if_pos q6] at e4
    subst e4
    refine J_iconst (v := 1) (pc1 := 13) dX7_statistic_12 (by decide) rfl ?_
    refine J_goto (tgt := 17) dX7_statistic_13 (by decide) ?_
    exact k5
def mX7_feed (a1 : Int32) (μ : gM) : Option (Int32 × gM) :=
  gLet (α := Int32) (if (μ 0 0 6) = 80 then 1 else 0) fun x1 =>
  gBd (mX7_fails 1 x1 μ) fun r6 μ7 =>
  if r6 = 0 then
    gChk (inb (μ7 0 0 6) 80) <|
    gChk (vp_nar .char a1 = a1) <|
    gLet (α := gM) (w3 μ7 5 0 ((μ7 0 0 6).toNatClampNeg) a1) fun μ11 =>
    gLet (α := gM) (w3 μ11 0 0 6 ((μ11 0 0 6) + 1)) fun μ13 =>
    some (μ13 0 0 6, μ13)
  else
    some (0, μ7)
set_option maxHeartbeats 4000000 in
set_option maxRecDepth 100000 in
theorem kX7_feed (l : Launch) (D : va_G) (tc : Nat → ClassId) (sa : Nat → Nat) (ad : Nat → Nat → Nat) (hI : gI gE_R ad) (a1 : Int32) (μ : gM) (r : Int32) (μ' : gM) (h : mX7_feed a1 μ = some (r, μ')) : gMet l yX7_feed cX7_feed 2 (some .int) ({ frames := 1, cells := 0, slots := 0, locals := 22 } : Room) D gE_R gkd_R tc ad grh_R sa [.ref (ad 0 0), .int a1] μ (some (.int r)) μ' := by
  refine gMet_of hI ⟨by decide +kernel, Nat.le_of_ble_eq_true rfl⟩ (fun p e s m args below meth c sz hr hlk => ?_)
  unfold mX7_feed at h
  show JR p l e ({ frames := 1, cells := 0, slots := 0, locals := 22 } : Room) s m args below meth c cX7_feed 2 RX7 D tc sa ad sz (some (.int r)) μ' μ 0 [(0, .ref (ad 0 0)), (1, .int a1)] []
  refine J_aload_n (i := 0) (q := 0) (pc1 := 1) dX7_feed_0 rfl rfl rfl ?_
  refine J_iconst (v := 1) (pc1 := 2) dX7_feed_1 (by decide) rfl ?_
  refine J_aload_n (i := 0) (q := 0) (pc1 := 3) dX7_feed_2 rfl rfl rfl ?_
  refine J_getI (T := TX7) (pc1 := 6) eR0 rfl rfl inX7 6 (by decide) rfl flX7_203 rfl dX7_feed_3 rfl ?_
  refine J_bipush (v := 80) (pc1 := 8) dX7_feed_6 (by decide) rfl ?_
  obtain ⟨x1, e2, h⟩ := gLet_s h
  have k3 : JR p l e ({ frames := 1, cells := 0, slots := 0, locals := 22 } : Room) s m args below meth c cX7_feed 2 RX7 D tc sa ad sz (some (.int r)) μ' μ 16 [(0, .ref (ad 0 0)), (1, .int a1)] [.int x1, .int 1, .ref (ad 0 0)] := by
    obtain ⟨r6, μ7, hc5, h⟩ := gBd_s h
    refine J_callV (As := [.int 1, .int x1]) (ad := ad) (f := 0) (i := 0) (st := []) (st1 := [.int r6]) (pc1 := 19) (kX7_fails l D tc sa ad hI 1 x1 μ r6 μ7 hc5) wcX7_fails wlX7_55 eR0 rfl rfl rfl ⟨rfl, rfl, Nat.le_of_ble_eq_true rfl, Nat.le_of_ble_eq_true rfl⟩ ⟨Nat.zero_le _, Nat.zero_le _⟩ (Nat.le_of_ble_eq_true rfl) dX7_feed_16 rfl rfl ?_
    refine J_if_eq (tgt := 24) (pc1 := 22) dX7_feed_19 (by decide) (fun q8 => ?_) rfl (fun q8 => ?_)
    · rw [if_pos q8] at h
      refine J_aload_n (i := 0) (q := 0) (pc1 := 25) dX7_feed_24 rfl rfl rfl ?_
      refine J_getR (T := TX7) (f' := 5) (i' := 0) (pc1 := 28) eR0 rfl rfl inX7 5 (by decide) rfl rfl flX7_19 rfl dX7_feed_25 rfl ?_
      refine J_aload_n (i := 0) (q := 0) (pc1 := 29) dX7_feed_28 rfl rfl rfl ?_
      refine J_getI (T := TX7) (pc1 := 32) eR0 rfl rfl inX7 6 (by decide) rfl flX7_203 rfl dX7_feed_29 rfl ?_
      refine J_iload_n (i := 1) (q := 1) (pc1 := 33) dX7_feed_32 rfl rfl rfl ?_
      obtain ⟨h9, h⟩ := gChk_s h
      obtain ⟨h10, h⟩ := gChk_s h
      refine J_cast (ix := ((μ7 0 0 6).toNatClampNeg)) (pc1 := 34) rfl eR5 rfl h9 h10 dX7_feed_33 rfl ?_
      obtain ⟨μ11, e12, h⟩ := gLet_s h
      rw [← e12]
      clear e12
      refine J_aload_n (i := 0) (q := 0) (pc1 := 35) dX7_feed_34 rfl rfl rfl ?_
      refine J_dup (pc1 := 36) dX7_feed_35 rfl rfl ?_
      refine J_getI (T := TX7) (pc1 := 39) eR0 rfl rfl inX7 6 (by decide) rfl flX7_203 rfl dX7_feed_36 rfl ?_
      refine J_iconst (v := 1) (pc1 := 40) dX7_feed_39 (by decide) rfl ?_
      refine J_iadd (pc1 := 41) dX7_feed_40 rfl ?_
      refine J_putI (T := TX7) (pc1 := 44) eR0 rfl rfl inX7 tyX7 tyX7_ok nmX7 6 (by decide) rfl (fun _ _ _ _ => rfl) flX7_203 rfl rfl rfl rfl dX7_feed_41 rfl ?_
      obtain ⟨μ13, e14, h⟩ := gLet_s h
      rw [← e14]
      clear e14
      refine J_aload_n (i := 0) (q := 0) (pc1 := 45) dX7_feed_44 rfl rfl rfl ?_
      refine J_getI (T := TX7) (pc1 := 48) eR0 rfl rfl inX7 6 (by decide) rfl flX7_203 rfl dX7_feed_45 rfl ?_
      cases h
      exact J_iret hr hlk dX7_feed_48
    · rw [if_neg q8] at h
      refine J_iconst (v := 0) (pc1 := 23) dX7_feed_22 (by decide) rfl ?_
      cases h
      exact J_iret hr hlk dX7_feed_23
  refine J_icmp_ne (tgt := 15) (pc1 := 11) dX7_feed_8 (by decide) (fun q4 => ?_) rfl (fun q4 => ?_)
  · rw [if_neg q4] at e2
    subst e2
    refine J_iconst (v := 0) (pc1 := 16) dX7_feed_15 (by decide) rfl ?_
    exact k3
  · rw [if_pos q4] at e2
    subst e2
    refine J_iconst (v := 1) (pc1 := 12) dX7_feed_11 (by decide) rfl ?_
    refine J_goto (tgt := 16) dX7_feed_12 (by decide) ?_
    exact k3
def mX7_sees (a1 : Int32) (a2 : Int32) (μ : gM) : Option Int32 :=
  if (μ 0 0 11) = 0 then
    if (μ 0 0 6) ≤ (μ 0 0 7) then
      some 0
    else
      gChk (inb (μ 0 0 7) 80) <|
      if (μ 5 0 ((μ 0 0 7).toNatClampNeg)) < a1 then
        some 0
      else
        gChk (inb (μ 0 0 7) 80) <|
        if a2 < (μ 5 0 ((μ 0 0 7).toNatClampNeg)) then
          some 0
        else
          some 1
  else
    some 0
set_option maxHeartbeats 4000000 in
set_option maxRecDepth 100000 in
theorem kX7_sees (l : Launch) (D : va_G) (tc : Nat → ClassId) (sa : Nat → Nat) (ad : Nat → Nat → Nat) (hI : gI gE_R ad) (a1 : Int32) (a2 : Int32) (μ : gM) (r : Int32) (h : mX7_sees a1 a2 μ = some r) : gMet l yX7_sees cX7_sees 3 (some .boolean) ({ frames := 0, cells := 0, slots := 0, locals := 0 } : Room) D gE_R gkd_R tc ad grh_R sa [.ref (ad 0 0), .int a1, .int a2] μ (some (.int r)) μ := by
  refine gMet_of hI ⟨by decide +kernel, Nat.le_of_ble_eq_true rfl⟩ (fun p e s m args below meth c sz hr hlk => ?_)
  unfold mX7_sees at h
  show JR p l e ({ frames := 0, cells := 0, slots := 0, locals := 0 } : Room) s m args below meth c cX7_sees 3 RX7 D tc sa ad sz (some (.int r)) μ μ 0 [(0, .ref (ad 0 0)), (1, .int a1), (2, .int a2)] []
  refine J_aload_n (i := 0) (q := 0) (pc1 := 1) dX7_sees_0 rfl rfl rfl ?_
  refine J_getI (T := TX7) (pc1 := 4) eR0 rfl rfl inX7 11 (by decide) rfl flX7_206 rfl dX7_sees_1 rfl ?_
  refine J_if_ne (tgt := 48) (pc1 := 7) dX7_sees_4 (by decide) (fun q1 => ?_) rfl (fun q1 => ?_)
  · rw [if_neg q1] at h
    refine J_iconst (v := 0) (pc1 := 49) dX7_sees_48 (by decide) rfl ?_
    cases h
    exact J_zret (by decide) hr hlk dX7_sees_49
  · rw [if_pos q1] at h
    refine J_aload_n (i := 0) (q := 0) (pc1 := 8) dX7_sees_7 rfl rfl rfl ?_
    refine J_getI (T := TX7) (pc1 := 11) eR0 rfl rfl inX7 7 (by decide) rfl flX7_210 rfl dX7_sees_8 rfl ?_
    refine J_aload_n (i := 0) (q := 0) (pc1 := 12) dX7_sees_11 rfl rfl rfl ?_
    refine J_getI (T := TX7) (pc1 := 15) eR0 rfl rfl inX7 6 (by decide) rfl flX7_203 rfl dX7_sees_12 rfl ?_
    refine J_icmp_ge (tgt := 48) (pc1 := 18) dX7_sees_15 (by decide) (fun q2 => ?_) rfl (fun q2 => ?_)
    · rw [if_pos q2] at h
      refine J_iconst (v := 0) (pc1 := 49) dX7_sees_48 (by decide) rfl ?_
      cases h
      exact J_zret (by decide) hr hlk dX7_sees_49
    · rw [if_neg q2] at h
      refine J_aload_n (i := 0) (q := 0) (pc1 := 19) dX7_sees_18 rfl rfl rfl ?_
      refine J_getR (T := TX7) (f' := 5) (i' := 0) (pc1 := 22) eR0 rfl rfl inX7 5 (by decide) rfl rfl flX7_19 rfl dX7_sees_19 rfl ?_
      refine J_aload_n (i := 0) (q := 0) (pc1 := 23) dX7_sees_22 rfl rfl rfl ?_
      refine J_getI (T := TX7) (pc1 := 26) eR0 rfl rfl inX7 7 (by decide) rfl flX7_210 rfl dX7_sees_23 rfl ?_
      obtain ⟨h3, h⟩ := gChk_s h
      refine J_cald (ix := ((μ 0 0 7).toNatClampNeg)) (pc1 := 27) rfl eR5 rfl h3 dX7_sees_26 rfl ?_
      refine J_iload_n (i := 1) (q := 1) (pc1 := 28) dX7_sees_27 rfl rfl rfl ?_
      refine J_icmp_lt (tgt := 48) (pc1 := 31) dX7_sees_28 (by decide) (fun q4 => ?_) rfl (fun q4 => ?_)
      · rw [if_pos q4] at h
        refine J_iconst (v := 0) (pc1 := 49) dX7_sees_48 (by decide) rfl ?_
        cases h
        exact J_zret (by decide) hr hlk dX7_sees_49
      · rw [if_neg q4] at h
        refine J_aload_n (i := 0) (q := 0) (pc1 := 32) dX7_sees_31 rfl rfl rfl ?_
        refine J_getR (T := TX7) (f' := 5) (i' := 0) (pc1 := 35) eR0 rfl rfl inX7 5 (by decide) rfl rfl flX7_19 rfl dX7_sees_32 rfl ?_
        refine J_aload_n (i := 0) (q := 0) (pc1 := 36) dX7_sees_35 rfl rfl rfl ?_
        refine J_getI (T := TX7) (pc1 := 39) eR0 rfl rfl inX7 7 (by decide) rfl flX7_210 rfl dX7_sees_36 rfl ?_
        obtain ⟨h5, h⟩ := gChk_s h
        refine J_cald (ix := ((μ 0 0 7).toNatClampNeg)) (pc1 := 40) rfl eR5 rfl h5 dX7_sees_39 rfl ?_
        refine J_iload_n (i := 2) (q := 2) (pc1 := 41) dX7_sees_40 rfl rfl rfl ?_
        refine J_icmp_gt (tgt := 48) (pc1 := 44) dX7_sees_41 (by decide) (fun q6 => ?_) rfl (fun q6 => ?_)
        · rw [if_pos q6] at h
          refine J_iconst (v := 0) (pc1 := 49) dX7_sees_48 (by decide) rfl ?_
          cases h
          exact J_zret (by decide) hr hlk dX7_sees_49
        · rw [if_neg q6] at h
          refine J_iconst (v := 1) (pc1 := 45) dX7_sees_44 (by decide) rfl ?_
          refine J_goto (tgt := 49) dX7_sees_45 (by decide) ?_
          cases h
          exact J_zret (by decide) hr hlk dX7_sees_49
def mX7_must (a1 : Int32) (μ : gM) : Option gM :=
  gBp (mX7_sees a1 a1 μ) fun r2 =>
  gLet (α := Int32) (if r2 = 0 then 1 else 0) fun x3 =>
  gChk (((μ 0 0 11) ||| x3) = 0 ∨ ((μ 0 0 11) ||| x3) = 1) <|
  gLet (α := gM) (w3 μ 0 0 11 ((μ 0 0 11) ||| x3)) fun μ8 =>
  gLet (α := Int32) (if r2 = 0 then 0 else 1) fun x10 =>
  gLet (α := gM) (w3 μ8 0 0 7 ((μ8 0 0 7) + x10)) fun μ14 =>
  some μ14
set_option maxHeartbeats 4000000 in
set_option maxRecDepth 100000 in
theorem kX7_must (l : Launch) (D : va_G) (tc : Nat → ClassId) (sa : Nat → Nat) (ad : Nat → Nat → Nat) (hI : gI gE_R ad) (a1 : Int32) (μ : gM) (μ' : gM) (h : mX7_must a1 μ = some μ') : gMet l yX7_must cX7_must 3 (none) ({ frames := 1, cells := 0, slots := 0, locals := 22 } : Room) D gE_R gkd_R tc ad grh_R sa [.ref (ad 0 0), .int a1] μ (none) μ' := by
  refine gMet_of hI ⟨by decide +kernel, Nat.le_of_ble_eq_true rfl⟩ (fun p e s m args below meth c sz hr hlk => ?_)
  unfold mX7_must at h
  show JR p l e ({ frames := 1, cells := 0, slots := 0, locals := 22 } : Room) s m args below meth c cX7_must 3 RX7 D tc sa ad sz (none) μ' μ 0 [(0, .ref (ad 0 0)), (1, .int a1)] []
  refine J_aload_n (i := 0) (q := 0) (pc1 := 1) dX7_must_0 rfl rfl rfl ?_
  refine J_iload_n (i := 1) (q := 1) (pc1 := 2) dX7_must_1 rfl rfl rfl ?_
  refine J_iload_n (i := 1) (q := 1) (pc1 := 3) dX7_must_2 rfl rfl rfl ?_
  obtain ⟨r2, hc1, h⟩ := gBp_s h
  refine J_callV (As := [.int a1, .int a1]) (ad := ad) (f := 0) (i := 0) (st := []) (st1 := [.int r2]) (pc1 := 6) (kX7_sees l D tc sa ad hI a1 a1 μ r2 hc1) wcX7_sees wlX7_213 eR0 rfl rfl rfl ⟨rfl, rfl, Nat.le_of_ble_eq_true rfl, Nat.le_of_ble_eq_true rfl⟩ ⟨Nat.zero_le _, Nat.zero_le _⟩ (Nat.le_of_ble_eq_true rfl) dX7_must_3 rfl rfl ?_
  refine J_istore_n (i := 2) (lv1 := [(2, .int r2), (0, .ref (ad 0 0)), (1, .int a1)]) (pc1 := 7) dX7_must_6 rfl (by decide) rfl rfl ?_
  refine J_aload_n (i := 0) (q := 1) (pc1 := 8) dX7_must_7 rfl rfl rfl ?_
  refine J_dup (pc1 := 9) dX7_must_8 rfl rfl ?_
  refine J_getI (T := TX7) (pc1 := 12) eR0 rfl rfl inX7 11 (by decide) rfl flX7_206 rfl dX7_must_9 rfl ?_
  refine J_iload_n (i := 2) (q := 0) (pc1 := 13) dX7_must_12 rfl rfl rfl ?_
  obtain ⟨x3, e4, h⟩ := gLet_s h
  have k5 : JR p l e ({ frames := 1, cells := 0, slots := 0, locals := 22 } : Room) s m args below meth c cX7_must 3 RX7 D tc sa ad sz (none) μ' μ 21 [(2, .int r2), (0, .ref (ad 0 0)), (1, .int a1)] [.int x3, .int (μ 0 0 11), .ref (ad 0 0)] := by
    refine J_ior (pc1 := 22) dX7_must_21 rfl ?_
    obtain ⟨h7, h⟩ := gChk_s h
    refine J_putI (T := TX7) (pc1 := 25) eR0 rfl rfl inX7 tyX7 tyX7_ok nmX7 11 (by decide) rfl (fun _ _ _ _ => rfl) flX7_206 rfl rfl (gZn h7) (gZf h7) dX7_must_22 rfl ?_
    obtain ⟨μ8, e9, h⟩ := gLet_s h
    rw [← e9]
    clear e9
    refine J_aload_n (i := 0) (q := 1) (pc1 := 26) dX7_must_25 rfl rfl rfl ?_
    refine J_dup (pc1 := 27) dX7_must_26 rfl rfl ?_
    refine J_getI (T := TX7) (pc1 := 30) eR0 rfl rfl inX7 7 (by decide) rfl flX7_210 rfl dX7_must_27 rfl ?_
    refine J_iload_n (i := 2) (q := 0) (pc1 := 31) dX7_must_30 rfl rfl rfl ?_
    obtain ⟨x10, e11, h⟩ := gLet_s h
    have k12 : JR p l e ({ frames := 1, cells := 0, slots := 0, locals := 22 } : Room) s m args below meth c cX7_must 3 RX7 D tc sa ad sz (none) μ' μ8 39 [(2, .int r2), (0, .ref (ad 0 0)), (1, .int a1)] [.int x10, .int (μ8 0 0 7), .ref (ad 0 0)] := by
      refine J_iadd (pc1 := 40) dX7_must_39 rfl ?_
      refine J_putI (T := TX7) (pc1 := 43) eR0 rfl rfl inX7 tyX7 tyX7_ok nmX7 7 (by decide) rfl (fun _ _ _ _ => rfl) flX7_210 rfl rfl rfl rfl dX7_must_40 rfl ?_
      obtain ⟨μ14, e15, h⟩ := gLet_s h
      rw [← e15]
      clear e15
      cases h
      exact J_vret hr hlk dX7_must_43
    refine J_if_eq (tgt := 38) (pc1 := 34) dX7_must_31 (by decide) (fun q13 => ?_) rfl (fun q13 => ?_)
    · rw [if_pos q13] at e11
      subst e11
      refine J_iconst (v := 0) (pc1 := 39) dX7_must_38 (by decide) rfl ?_
      exact k12
    · rw [if_neg q13] at e11
      subst e11
      refine J_iconst (v := 1) (pc1 := 35) dX7_must_34 (by decide) rfl ?_
      refine J_goto (tgt := 39) dX7_must_35 (by decide) ?_
      exact k12
  refine J_if_ne (tgt := 20) (pc1 := 16) dX7_must_13 (by decide) (fun q6 => ?_) rfl (fun q6 => ?_)
  · rw [if_neg q6] at e4
    subst e4
    refine J_iconst (v := 0) (pc1 := 21) dX7_must_20 (by decide) rfl ?_
    exact k5
  · rw [if_pos q6] at e4
    subst e4
    refine J_iconst (v := 1) (pc1 := 17) dX7_must_16 (by decide) rfl ?_
    refine J_goto (tgt := 21) dX7_must_17 (by decide) ?_
    exact k5
def mX7_passNumber  (μ : gM) : Option (Int32 × gM) :=
  gBp (mX7_sees 48 57 μ) fun r2 =>
  gLet (α := Int32) (if r2 = 0 then 1 else 0) fun x3 =>
  gChk (((μ 0 0 11) ||| x3) = 0 ∨ ((μ 0 0 11) ||| x3) = 1) <|
  gLet (α := gM) (w3 μ 0 0 11 ((μ 0 0 11) ||| x3)) fun μ8 =>
  gJon (fun (x10 : Int32) (μ11 : gM) =>
      some (x10, μ11)) fun j12 =>
  gFx3 (fun rec16 (x13 : Int32) (x14 : Int32) (μ15 : gM) =>
      if 3 ≤ x14 then
        j12 x13 μ15
      else
        gBp (mX7_sees 48 57 μ15) fun r19 =>
        if r19 = 0 then
          j12 x13 μ15
        else
          gChk (inb (μ15 0 0 7) 80) <|
          gLet (α := Int32) (((10 * x13) + (μ15 5 0 ((μ15 0 0 7).toNatClampNeg))) - 48) fun x22 =>
          gLet (α := gM) (w3 μ15 0 0 7 ((μ15 0 0 7) + 1)) fun μ26 =>
          rec16 x22 (x14 + 1) μ26) 1000000 0 0 μ8
set_option maxHeartbeats 4000000 in
set_option maxRecDepth 100000 in
theorem kX7_passNumber (l : Launch) (D : va_G) (tc : Nat → ClassId) (sa : Nat → Nat) (ad : Nat → Nat → Nat) (hI : gI gE_R ad)  (μ : gM) (r : Int32) (μ' : gM) (h : mX7_passNumber  μ = some (r, μ')) : gMet l yX7_passNumber cX7_passNumber 3 (some .int) ({ frames := 1, cells := 0, slots := 0, locals := 22 } : Room) D gE_R gkd_R tc ad grh_R sa [.ref (ad 0 0)] μ (some (.int r)) μ' := by
  refine gMet_of hI ⟨by decide +kernel, Nat.le_of_ble_eq_true rfl⟩ (fun p e s m args below meth c sz hr hlk => ?_)
  unfold mX7_passNumber at h
  show JR p l e ({ frames := 1, cells := 0, slots := 0, locals := 22 } : Room) s m args below meth c cX7_passNumber 3 RX7 D tc sa ad sz (some (.int r)) μ' μ 0 [(0, .ref (ad 0 0))] []
  refine J_aload_n (i := 0) (q := 0) (pc1 := 1) dX7_passNumber_0 rfl rfl rfl ?_
  refine J_dup (pc1 := 2) dX7_passNumber_1 rfl rfl ?_
  refine J_getI (T := TX7) (pc1 := 5) eR0 rfl rfl inX7 11 (by decide) rfl flX7_206 rfl dX7_passNumber_2 rfl ?_
  refine J_aload_n (i := 0) (q := 0) (pc1 := 6) dX7_passNumber_5 rfl rfl rfl ?_
  refine J_bipush (v := 48) (pc1 := 8) dX7_passNumber_6 (by decide) rfl ?_
  refine J_bipush (v := 57) (pc1 := 10) dX7_passNumber_8 (by decide) rfl ?_
  obtain ⟨r2, hc1, h⟩ := gBp_s h
  refine J_callV (As := [.int 48, .int 57]) (ad := ad) (f := 0) (i := 0) (st := [.int (μ 0 0 11), .ref (ad 0 0)]) (st1 := [.int r2, .int (μ 0 0 11), .ref (ad 0 0)]) (pc1 := 13) (kX7_sees l D tc sa ad hI 48 57 μ r2 hc1) wcX7_sees wlX7_213 eR0 rfl rfl rfl ⟨rfl, rfl, Nat.le_of_ble_eq_true rfl, Nat.le_of_ble_eq_true rfl⟩ ⟨Nat.zero_le _, Nat.zero_le _⟩ (Nat.le_of_ble_eq_true rfl) dX7_passNumber_10 rfl rfl ?_
  obtain ⟨x3, e4, h⟩ := gLet_s h
  have k5 : JR p l e ({ frames := 1, cells := 0, slots := 0, locals := 22 } : Room) s m args below meth c cX7_passNumber 3 RX7 D tc sa ad sz (some (.int r)) μ' μ 21 [(0, .ref (ad 0 0))] [.int x3, .int (μ 0 0 11), .ref (ad 0 0)] := by
    refine J_ior (pc1 := 22) dX7_passNumber_21 rfl ?_
    obtain ⟨h7, h⟩ := gChk_s h
    refine J_putI (T := TX7) (pc1 := 25) eR0 rfl rfl inX7 tyX7 tyX7_ok nmX7 11 (by decide) rfl (fun _ _ _ _ => rfl) flX7_206 rfl rfl (gZn h7) (gZf h7) dX7_passNumber_22 rfl ?_
    obtain ⟨μ8, e9, h⟩ := gLet_s h
    rw [← e9]
    clear e9
    refine J_iconst (v := 0) (pc1 := 26) dX7_passNumber_25 (by decide) rfl ?_
    refine J_istore_n (i := 1) (lv1 := [(1, .int 0), (0, .ref (ad 0 0))]) (pc1 := 27) dX7_passNumber_26 rfl (by decide) rfl rfl ?_
    refine J_iconst (v := 0) (pc1 := 28) dX7_passNumber_27 (by decide) rfl ?_
    refine J_istore_n (i := 2) (lv1 := [(2, .int 0), (1, .int 0), (0, .ref (ad 0 0))]) (pc1 := 29) dX7_passNumber_28 rfl (by decide) rfl rfl ?_
    obtain ⟨j12, ej12, h⟩ := gJon_s h
    have kj12 : ∀ (x10 : Int32) (μ11 : gM), j12 x10 μ11 = some (r, μ') → JR p l e ({ frames := 1, cells := 0, slots := 0, locals := 22 } : Room) s m args below meth c cX7_passNumber 3 RX7 D tc sa ad sz (some (.int r)) μ' μ11 79 [(1, .int x10)] [] := by
      intro x10 μ11 h
      rw [ej12] at h
      try dsimp only at h
      refine J_iload_n (i := 1) (q := 0) (pc1 := 80) dX7_passNumber_79 rfl rfl rfl ?_
      cases h
      exact J_iret hr hlk dX7_passNumber_80
    clear ej12
    refine J_sub [2, 1, 0] (lv1 := [(0, .ref (ad 0 0)), (1, .int 0), (2, .int 0)]) rfl ?_
    refine gFx3_s (P := fun x13 x14 μ15 => JR p l e ({ frames := 1, cells := 0, slots := 0, locals := 22 } : Room) s m args below meth c cX7_passNumber 3 RX7 D tc sa ad sz (some (.int r)) μ' μ15 29 [(0, .ref (ad 0 0)), (1, .int x13), (2, .int x14)] []) (fun rec16 ihrec16 x13 x14 μ15 h => ?_) _ _ _ _ h
    try dsimp only at h
    refine J_iload_n (i := 2) (q := 2) (pc1 := 30) dX7_passNumber_29 rfl rfl rfl ?_
    refine J_iconst (v := 3) (pc1 := 31) dX7_passNumber_30 (by decide) rfl ?_
    refine J_icmp_ge (tgt := 79) (pc1 := 34) dX7_passNumber_31 (by decide) (fun q17 => ?_) rfl (fun q17 => ?_)
    · rw [if_pos q17] at h
      refine J_sub [1] (lv1 := [(1, .int x13)]) rfl ?_
      exact kj12 _ _ h
    · rw [if_neg q17] at h
      refine J_aload_n (i := 0) (q := 0) (pc1 := 35) dX7_passNumber_34 rfl rfl rfl ?_
      refine J_bipush (v := 48) (pc1 := 37) dX7_passNumber_35 (by decide) rfl ?_
      refine J_bipush (v := 57) (pc1 := 39) dX7_passNumber_37 (by decide) rfl ?_
      obtain ⟨r19, hc18, h⟩ := gBp_s h
      refine J_callV (As := [.int 48, .int 57]) (ad := ad) (f := 0) (i := 0) (st := []) (st1 := [.int r19]) (pc1 := 42) (kX7_sees l D tc sa ad hI 48 57 μ15 r19 hc18) wcX7_sees wlX7_213 eR0 rfl rfl rfl ⟨rfl, rfl, Nat.le_of_ble_eq_true rfl, Nat.le_of_ble_eq_true rfl⟩ ⟨Nat.zero_le _, Nat.zero_le _⟩ (Nat.le_of_ble_eq_true rfl) dX7_passNumber_39 rfl rfl ?_
      refine J_if_eq (tgt := 79) (pc1 := 45) dX7_passNumber_42 (by decide) (fun q20 => ?_) rfl (fun q20 => ?_)
      · rw [if_pos q20] at h
        refine J_sub [1] (lv1 := [(1, .int x13)]) rfl ?_
        exact kj12 _ _ h
      · rw [if_neg q20] at h
        refine J_bipush (v := 10) (pc1 := 47) dX7_passNumber_45 (by decide) rfl ?_
        refine J_iload_n (i := 1) (q := 1) (pc1 := 48) dX7_passNumber_47 rfl rfl rfl ?_
        refine J_imul (pc1 := 49) dX7_passNumber_48 rfl ?_
        refine J_aload_n (i := 0) (q := 0) (pc1 := 50) dX7_passNumber_49 rfl rfl rfl ?_
        refine J_getR (T := TX7) (f' := 5) (i' := 0) (pc1 := 53) eR0 rfl rfl inX7 5 (by decide) rfl rfl flX7_19 rfl dX7_passNumber_50 rfl ?_
        refine J_aload_n (i := 0) (q := 0) (pc1 := 54) dX7_passNumber_53 rfl rfl rfl ?_
        refine J_getI (T := TX7) (pc1 := 57) eR0 rfl rfl inX7 7 (by decide) rfl flX7_210 rfl dX7_passNumber_54 rfl ?_
        obtain ⟨h21, h⟩ := gChk_s h
        refine J_cald (ix := ((μ15 0 0 7).toNatClampNeg)) (pc1 := 58) rfl eR5 rfl h21 dX7_passNumber_57 rfl ?_
        refine J_iadd (pc1 := 59) dX7_passNumber_58 rfl ?_
        refine J_bipush (v := 48) (pc1 := 61) dX7_passNumber_59 (by decide) rfl ?_
        refine J_isub (pc1 := 62) dX7_passNumber_61 rfl ?_
        obtain ⟨x22, e24, h⟩ := gLet_s h
        refine J_top (fun y23 e25 => ?_)
        have e25x : x22 = y23 := (e25.trans e24.symm).symm
        subst e25x
        refine J_istore_n (i := 1) (lv1 := [(1, .int x22), (0, .ref (ad 0 0)), (2, .int x14)]) (pc1 := 63) dX7_passNumber_62 rfl (by decide) rfl rfl ?_
        refine J_aload_n (i := 0) (q := 1) (pc1 := 64) dX7_passNumber_63 rfl rfl rfl ?_
        refine J_dup (pc1 := 65) dX7_passNumber_64 rfl rfl ?_
        refine J_getI (T := TX7) (pc1 := 68) eR0 rfl rfl inX7 7 (by decide) rfl flX7_210 rfl dX7_passNumber_65 rfl ?_
        refine J_iconst (v := 1) (pc1 := 69) dX7_passNumber_68 (by decide) rfl ?_
        refine J_iadd (pc1 := 70) dX7_passNumber_69 rfl ?_
        refine J_putI (T := TX7) (pc1 := 73) eR0 rfl rfl inX7 tyX7 tyX7_ok nmX7 7 (by decide) rfl (fun _ _ _ _ => rfl) flX7_210 rfl rfl rfl rfl dX7_passNumber_70 rfl ?_
        obtain ⟨μ26, e27, h⟩ := gLet_s h
        rw [← e27]
        clear e27
        refine J_iinc (i := 2) (q := 2) (v := x14 + 1) (lv1 := [(2, .int (x14 + 1)), (1, .int x22), (0, .ref (ad 0 0))]) (pc1 := 76) dX7_passNumber_73 rfl rfl (by decide) rfl rfl ?_
        refine J_goto (tgt := 29) dX7_passNumber_76 (by decide) ?_
        refine J_sub [2, 1, 0] (lv1 := [(0, .ref (ad 0 0)), (1, .int x22), (2, .int (x14 + 1))]) rfl ?_
        exact ihrec16 _ _ _ h
  refine J_if_ne (tgt := 20) (pc1 := 16) dX7_passNumber_13 (by decide) (fun q6 => ?_) rfl (fun q6 => ?_)
  · rw [if_neg q6] at e4
    subst e4
    refine J_iconst (v := 0) (pc1 := 21) dX7_passNumber_20 (by decide) rfl ?_
    exact k5
  · rw [if_pos q6] at e4
    subst e4
    refine J_iconst (v := 1) (pc1 := 17) dX7_passNumber_16 (by decide) rfl ?_
    refine J_goto (tgt := 21) dX7_passNumber_17 (by decide) ?_
    exact k5
def mX7_performCommand  (μ : gM) : Option gM :=
  if (μ 0 0 8) = 0 then
    gBd (mX7_tick (μ 0 0 9) μ) fun r3 μ4 =>
    some μ4
  else if (μ 0 0 8) = 1 then
    gBd (mX7_crash (μ 0 0 9) μ) fun r7 μ8 =>
    some μ8
  else if (μ 0 0 8) = 2 then
    gBd (mX7_restart (μ 0 0 9) μ) fun r11 μ12 =>
    some μ12
  else if (μ 0 0 8) = 3 then
    gBd (mX7_setLink (μ 0 0 9) (μ 0 0 10) 1 μ) fun r15 μ16 =>
    some μ16
  else if (μ 0 0 8) = 4 then
    gBd (mX7_setLink (μ 0 0 9) (μ 0 0 10) 0 μ) fun r19 μ20 =>
    some μ20
  else if (μ 0 0 8) = 5 then
    gBd (mX7_submit (μ 0 0 9) (μ 0 0 10) μ) fun r23 μ24 =>
    some μ24
  else 
    gBd (mX7_pack (μ 0 0 9) μ) fun r26 μ27 =>
    some μ27
set_option maxHeartbeats 4000000 in
set_option maxRecDepth 100000 in
theorem kX7_performCommand (l : Launch) (D : va_G) (tc : Nat → ClassId) (sa : Nat → Nat) (ad : Nat → Nat → Nat) (hI : gI gE_R ad)  (μ : gM) (μ' : gM) (h : mX7_performCommand  μ = some μ') : gMet l yX7_performCommand cX7_performCommand 1 (none) ({ frames := 12, cells := 0, slots := 0, locals := 271 } : Room) D gE_R gkd_R tc ad grh_R sa [.ref (ad 0 0)] μ (none) μ' := by
  refine gMet_of hI ⟨by decide +kernel, Nat.le_of_ble_eq_true rfl⟩ (fun p e s m args below meth c sz hr hlk => ?_)
  unfold mX7_performCommand at h
  show JR p l e ({ frames := 12, cells := 0, slots := 0, locals := 271 } : Room) s m args below meth c cX7_performCommand 1 RX7 D tc sa ad sz (none) μ' μ 0 [(0, .ref (ad 0 0))] []
  refine J_aload_n (i := 0) (q := 0) (pc1 := 1) dX7_performCommand_0 rfl rfl rfl ?_
  refine J_getI (T := TX7) (pc1 := 4) eR0 rfl rfl inX7 8 (by decide) rfl flX7_225 rfl dX7_performCommand_1 rfl ?_
  by_cases q1 : (μ 0 0 8) = 0
  · rw [if_pos q1] at h
    refine J_swIn (v := 0) (off := 40) (tgt := 44) dX7_performCommand_4 q1 (by decide) ?_
    refine J_aload_n (i := 0) (q := 0) (pc1 := 45) dX7_performCommand_44 rfl rfl rfl ?_
    refine J_aload_n (i := 0) (q := 0) (pc1 := 46) dX7_performCommand_45 rfl rfl rfl ?_
    refine J_getI (T := TX7) (pc1 := 49) eR0 rfl rfl inX7 9 (by decide) rfl flX7_238 rfl dX7_performCommand_46 rfl ?_
    obtain ⟨r3, μ4, hc2, h⟩ := gBd_s h
    refine J_callV (As := [.int (μ 0 0 9)]) (ad := ad) (f := 0) (i := 0) (st := []) (st1 := [.int r3]) (pc1 := 52) (kX7_tick l D tc sa ad hI (μ 0 0 9) μ r3 μ4 hc2) wcX7_tick wlX7_244 eR0 rfl rfl rfl ⟨rfl, rfl, Nat.le_of_ble_eq_true rfl, Nat.le_of_ble_eq_true rfl⟩ ⟨Nat.zero_le _, Nat.zero_le _⟩ (Nat.le_of_ble_eq_true rfl) dX7_performCommand_49 rfl rfl ?_
    refine J_pop (pc1 := 53) dX7_performCommand_52 rfl rfl ?_
    refine J_goto (tgt := 139) dX7_performCommand_53 (by decide) ?_
    cases h
    exact J_vret hr hlk dX7_performCommand_139
  rw [if_neg q1] at h
  by_cases q5 : (μ 0 0 8) = 1
  · rw [if_pos q5] at h
    refine J_swIn (v := 1) (off := 52) (tgt := 56) dX7_performCommand_4 q5 (by decide) ?_
    refine J_aload_n (i := 0) (q := 0) (pc1 := 57) dX7_performCommand_56 rfl rfl rfl ?_
    refine J_aload_n (i := 0) (q := 0) (pc1 := 58) dX7_performCommand_57 rfl rfl rfl ?_
    refine J_getI (T := TX7) (pc1 := 61) eR0 rfl rfl inX7 9 (by decide) rfl flX7_238 rfl dX7_performCommand_58 rfl ?_
    obtain ⟨r7, μ8, hc6, h⟩ := gBd_s h
    refine J_callV (As := [.int (μ 0 0 9)]) (ad := ad) (f := 0) (i := 0) (st := []) (st1 := [.int r7]) (pc1 := 64) (kX7_crash l D tc sa ad hI (μ 0 0 9) μ r7 μ8 hc6) wcX7_crash wlX7_247 eR0 rfl rfl rfl ⟨rfl, rfl, Nat.le_of_ble_eq_true rfl, Nat.le_of_ble_eq_true rfl⟩ ⟨Nat.zero_le _, Nat.zero_le _⟩ (Nat.le_of_ble_eq_true rfl) dX7_performCommand_61 rfl rfl ?_
    refine J_pop (pc1 := 65) dX7_performCommand_64 rfl rfl ?_
    refine J_goto (tgt := 139) dX7_performCommand_65 (by decide) ?_
    cases h
    exact J_vret hr hlk dX7_performCommand_139
  rw [if_neg q5] at h
  by_cases q9 : (μ 0 0 8) = 2
  · rw [if_pos q9] at h
    refine J_swIn (v := 2) (off := 64) (tgt := 68) dX7_performCommand_4 q9 (by decide) ?_
    refine J_aload_n (i := 0) (q := 0) (pc1 := 69) dX7_performCommand_68 rfl rfl rfl ?_
    refine J_aload_n (i := 0) (q := 0) (pc1 := 70) dX7_performCommand_69 rfl rfl rfl ?_
    refine J_getI (T := TX7) (pc1 := 73) eR0 rfl rfl inX7 9 (by decide) rfl flX7_238 rfl dX7_performCommand_70 rfl ?_
    obtain ⟨r11, μ12, hc10, h⟩ := gBd_s h
    refine J_callV (As := [.int (μ 0 0 9)]) (ad := ad) (f := 0) (i := 0) (st := []) (st1 := [.int r11]) (pc1 := 76) (kX7_restart l D tc sa ad hI (μ 0 0 9) μ r11 μ12 hc10) wcX7_restart wlX7_250 eR0 rfl rfl rfl ⟨rfl, rfl, Nat.le_of_ble_eq_true rfl, Nat.le_of_ble_eq_true rfl⟩ ⟨Nat.zero_le _, Nat.zero_le _⟩ (Nat.le_of_ble_eq_true rfl) dX7_performCommand_73 rfl rfl ?_
    refine J_pop (pc1 := 77) dX7_performCommand_76 rfl rfl ?_
    refine J_goto (tgt := 139) dX7_performCommand_77 (by decide) ?_
    cases h
    exact J_vret hr hlk dX7_performCommand_139
  rw [if_neg q9] at h
  by_cases q13 : (μ 0 0 8) = 3
  · rw [if_pos q13] at h
    refine J_swIn (v := 3) (off := 76) (tgt := 80) dX7_performCommand_4 q13 (by decide) ?_
    refine J_aload_n (i := 0) (q := 0) (pc1 := 81) dX7_performCommand_80 rfl rfl rfl ?_
    refine J_aload_n (i := 0) (q := 0) (pc1 := 82) dX7_performCommand_81 rfl rfl rfl ?_
    refine J_getI (T := TX7) (pc1 := 85) eR0 rfl rfl inX7 9 (by decide) rfl flX7_238 rfl dX7_performCommand_82 rfl ?_
    refine J_aload_n (i := 0) (q := 0) (pc1 := 86) dX7_performCommand_85 rfl rfl rfl ?_
    refine J_getI (T := TX7) (pc1 := 89) eR0 rfl rfl inX7 10 (by decide) rfl flX7_241 rfl dX7_performCommand_86 rfl ?_
    refine J_iconst (v := 1) (pc1 := 90) dX7_performCommand_89 (by decide) rfl ?_
    obtain ⟨r15, μ16, hc14, h⟩ := gBd_s h
    refine J_callV (As := [.int (μ 0 0 9), .int (μ 0 0 10), .int 1]) (ad := ad) (f := 0) (i := 0) (st := []) (st1 := [.int r15]) (pc1 := 93) (kX7_setLink l D tc sa ad hI (μ 0 0 9) (μ 0 0 10) 1 μ r15 μ16 hc14) wcX7_setLink wlX7_253 eR0 rfl rfl rfl ⟨rfl, rfl, Nat.le_of_ble_eq_true rfl, Nat.le_of_ble_eq_true rfl⟩ ⟨Nat.zero_le _, Nat.zero_le _⟩ (Nat.le_of_ble_eq_true rfl) dX7_performCommand_90 rfl rfl ?_
    refine J_pop (pc1 := 94) dX7_performCommand_93 rfl rfl ?_
    refine J_goto (tgt := 139) dX7_performCommand_94 (by decide) ?_
    cases h
    exact J_vret hr hlk dX7_performCommand_139
  rw [if_neg q13] at h
  by_cases q17 : (μ 0 0 8) = 4
  · rw [if_pos q17] at h
    refine J_swIn (v := 4) (off := 93) (tgt := 97) dX7_performCommand_4 q17 (by decide) ?_
    refine J_aload_n (i := 0) (q := 0) (pc1 := 98) dX7_performCommand_97 rfl rfl rfl ?_
    refine J_aload_n (i := 0) (q := 0) (pc1 := 99) dX7_performCommand_98 rfl rfl rfl ?_
    refine J_getI (T := TX7) (pc1 := 102) eR0 rfl rfl inX7 9 (by decide) rfl flX7_238 rfl dX7_performCommand_99 rfl ?_
    refine J_aload_n (i := 0) (q := 0) (pc1 := 103) dX7_performCommand_102 rfl rfl rfl ?_
    refine J_getI (T := TX7) (pc1 := 106) eR0 rfl rfl inX7 10 (by decide) rfl flX7_241 rfl dX7_performCommand_103 rfl ?_
    refine J_iconst (v := 0) (pc1 := 107) dX7_performCommand_106 (by decide) rfl ?_
    obtain ⟨r19, μ20, hc18, h⟩ := gBd_s h
    refine J_callV (As := [.int (μ 0 0 9), .int (μ 0 0 10), .int 0]) (ad := ad) (f := 0) (i := 0) (st := []) (st1 := [.int r19]) (pc1 := 110) (kX7_setLink l D tc sa ad hI (μ 0 0 9) (μ 0 0 10) 0 μ r19 μ20 hc18) wcX7_setLink wlX7_253 eR0 rfl rfl rfl ⟨rfl, rfl, Nat.le_of_ble_eq_true rfl, Nat.le_of_ble_eq_true rfl⟩ ⟨Nat.zero_le _, Nat.zero_le _⟩ (Nat.le_of_ble_eq_true rfl) dX7_performCommand_107 rfl rfl ?_
    refine J_pop (pc1 := 111) dX7_performCommand_110 rfl rfl ?_
    refine J_goto (tgt := 139) dX7_performCommand_111 (by decide) ?_
    cases h
    exact J_vret hr hlk dX7_performCommand_139
  rw [if_neg q17] at h
  by_cases q21 : (μ 0 0 8) = 5
  · rw [if_pos q21] at h
    refine J_swIn (v := 5) (off := 110) (tgt := 114) dX7_performCommand_4 q21 (by decide) ?_
    refine J_aload_n (i := 0) (q := 0) (pc1 := 115) dX7_performCommand_114 rfl rfl rfl ?_
    refine J_aload_n (i := 0) (q := 0) (pc1 := 116) dX7_performCommand_115 rfl rfl rfl ?_
    refine J_getI (T := TX7) (pc1 := 119) eR0 rfl rfl inX7 9 (by decide) rfl flX7_238 rfl dX7_performCommand_116 rfl ?_
    refine J_aload_n (i := 0) (q := 0) (pc1 := 120) dX7_performCommand_119 rfl rfl rfl ?_
    refine J_getI (T := TX7) (pc1 := 123) eR0 rfl rfl inX7 10 (by decide) rfl flX7_241 rfl dX7_performCommand_120 rfl ?_
    obtain ⟨r23, μ24, hc22, h⟩ := gBd_s h
    refine J_callV (As := [.int (μ 0 0 9), .int (μ 0 0 10)]) (ad := ad) (f := 0) (i := 0) (st := []) (st1 := [.int r23]) (pc1 := 126) (kX7_submit l D tc sa ad hI (μ 0 0 9) (μ 0 0 10) μ r23 μ24 hc22) wcX7_submit wlX7_257 eR0 rfl rfl rfl ⟨rfl, rfl, Nat.le_of_ble_eq_true rfl, Nat.le_of_ble_eq_true rfl⟩ ⟨Nat.zero_le _, Nat.zero_le _⟩ (Nat.le_of_ble_eq_true rfl) dX7_performCommand_123 rfl rfl ?_
    refine J_pop (pc1 := 127) dX7_performCommand_126 rfl rfl ?_
    refine J_goto (tgt := 139) dX7_performCommand_127 (by decide) ?_
    cases h
    exact J_vret hr hlk dX7_performCommand_139
  rw [if_neg q21] at h
  refine J_swOut (tgt := 130) dX7_performCommand_4 (by have := i32_ne (k := 0) q1 (by decide); have := i32_ne (k := 1) q5 (by decide); have := i32_ne (k := 2) q9 (by decide); have := i32_ne (k := 3) q13 (by decide); have := i32_ne (k := 4) q17 (by decide); have := i32_ne (k := 5) q21 (by decide); omega) (by decide) ?_
  refine J_aload_n (i := 0) (q := 0) (pc1 := 131) dX7_performCommand_130 rfl rfl rfl ?_
  refine J_aload_n (i := 0) (q := 0) (pc1 := 132) dX7_performCommand_131 rfl rfl rfl ?_
  refine J_getI (T := TX7) (pc1 := 135) eR0 rfl rfl inX7 9 (by decide) rfl flX7_238 rfl dX7_performCommand_132 rfl ?_
  obtain ⟨r26, μ27, hc25, h⟩ := gBd_s h
  refine J_callV (As := [.int (μ 0 0 9)]) (ad := ad) (f := 0) (i := 0) (st := []) (st1 := [.int r26]) (pc1 := 138) (kX7_pack l D tc sa ad hI (μ 0 0 9) μ r26 μ27 hc25) wcX7_pack wlX7_260 eR0 rfl rfl rfl ⟨rfl, rfl, Nat.le_of_ble_eq_true rfl, Nat.le_of_ble_eq_true rfl⟩ ⟨Nat.zero_le _, Nat.zero_le _⟩ (Nat.le_of_ble_eq_true rfl) dX7_performCommand_135 rfl rfl ?_
  refine J_pop (pc1 := 139) dX7_performCommand_138 rfl rfl ?_
  cases h
  exact J_vret hr hlk dX7_performCommand_139
def mX7_writeLetter (a1 : Int32) (μ : gM) : Option gM :=
  gChk (inb (μ 0 0 13) 700) <|
  gChk (vp_nar .char a1 = a1) <|
  gLet (α := gM) (w3 μ 12 0 ((μ 0 0 13).toNatClampNeg) a1) fun μ3 =>
  gLet (α := gM) (w3 μ3 0 0 13 ((μ3 0 0 13) + 1)) fun μ5 =>
  some μ5
set_option maxHeartbeats 4000000 in
set_option maxRecDepth 100000 in
theorem kX7_writeLetter (l : Launch) (D : va_G) (tc : Nat → ClassId) (sa : Nat → Nat) (ad : Nat → Nat → Nat) (hI : gI gE_R ad) (a1 : Int32) (μ : gM) (μ' : gM) (h : mX7_writeLetter a1 μ = some μ') : gMet l yX7_writeLetter cX7_writeLetter 2 (none) ({ frames := 0, cells := 0, slots := 0, locals := 0 } : Room) D gE_R gkd_R tc ad grh_R sa [.ref (ad 0 0), .int a1] μ (none) μ' := by
  refine gMet_of hI ⟨by decide +kernel, Nat.le_of_ble_eq_true rfl⟩ (fun p e s m args below meth c sz hr hlk => ?_)
  unfold mX7_writeLetter at h
  show JR p l e ({ frames := 0, cells := 0, slots := 0, locals := 0 } : Room) s m args below meth c cX7_writeLetter 2 RX7 D tc sa ad sz (none) μ' μ 0 [(0, .ref (ad 0 0)), (1, .int a1)] []
  refine J_aload_n (i := 0) (q := 0) (pc1 := 1) dX7_writeLetter_0 rfl rfl rfl ?_
  refine J_getR (T := TX7) (f' := 12) (i' := 0) (pc1 := 4) eR0 rfl rfl inX7 12 (by decide) rfl rfl flX7_23 rfl dX7_writeLetter_1 rfl ?_
  refine J_aload_n (i := 0) (q := 0) (pc1 := 5) dX7_writeLetter_4 rfl rfl rfl ?_
  refine J_getI (T := TX7) (pc1 := 8) eR0 rfl rfl inX7 13 (by decide) rfl flX7_269 rfl dX7_writeLetter_5 rfl ?_
  refine J_iload_n (i := 1) (q := 1) (pc1 := 9) dX7_writeLetter_8 rfl rfl rfl ?_
  obtain ⟨h1, h⟩ := gChk_s h
  obtain ⟨h2, h⟩ := gChk_s h
  refine J_cast (ix := ((μ 0 0 13).toNatClampNeg)) (pc1 := 10) rfl eR12 rfl h1 h2 dX7_writeLetter_9 rfl ?_
  obtain ⟨μ3, e4, h⟩ := gLet_s h
  rw [← e4]
  clear e4
  refine J_aload_n (i := 0) (q := 0) (pc1 := 11) dX7_writeLetter_10 rfl rfl rfl ?_
  refine J_dup (pc1 := 12) dX7_writeLetter_11 rfl rfl ?_
  refine J_getI (T := TX7) (pc1 := 15) eR0 rfl rfl inX7 13 (by decide) rfl flX7_269 rfl dX7_writeLetter_12 rfl ?_
  refine J_iconst (v := 1) (pc1 := 16) dX7_writeLetter_15 (by decide) rfl ?_
  refine J_iadd (pc1 := 17) dX7_writeLetter_16 rfl ?_
  refine J_putI (T := TX7) (pc1 := 20) eR0 rfl rfl inX7 tyX7 tyX7_ok nmX7 13 (by decide) rfl (fun _ _ _ _ => rfl) flX7_269 rfl rfl rfl rfl dX7_writeLetter_17 rfl ?_
  obtain ⟨μ5, e6, h⟩ := gLet_s h
  rw [← e6]
  clear e6
  cases h
  exact J_vret hr hlk dX7_writeLetter_20
def mX7_text (a1 : Int32) (μ : gM) : Option (Int32 × gM) :=
  gBp (mX7_isBetween a1 0 ((μ 0 0 13) - 1) μ) fun r2 =>
  gLet (α := Int32) (if r2 = 0 then 1 else 0) fun x3 =>
  gBd (mX7_fails 1 x3 μ) fun r8 μ9 =>
  if r8 = 0 then
    gChk (inb a1 700) <|
    gChk (vp_nar .char (μ9 12 0 (a1.toNatClampNeg)) = (μ9 12 0 (a1.toNatClampNeg))) <|
    some (μ9 12 0 (a1.toNatClampNeg), μ9)
  else
    some (97, μ9)
set_option maxHeartbeats 4000000 in
set_option maxRecDepth 100000 in
theorem kX7_text (l : Launch) (D : va_G) (tc : Nat → ClassId) (sa : Nat → Nat) (ad : Nat → Nat → Nat) (hI : gI gE_R ad) (a1 : Int32) (μ : gM) (r : Int32) (μ' : gM) (h : mX7_text a1 μ = some (r, μ')) : gMet l yX7_text cX7_text 2 (some .char) ({ frames := 1, cells := 0, slots := 0, locals := 22 } : Room) D gE_R gkd_R tc ad grh_R sa [.ref (ad 0 0), .int a1] μ (some (.int r)) μ' := by
  refine gMet_of hI ⟨by decide +kernel, Nat.le_of_ble_eq_true rfl⟩ (fun p e s m args below meth c sz hr hlk => ?_)
  unfold mX7_text at h
  show JR p l e ({ frames := 1, cells := 0, slots := 0, locals := 22 } : Room) s m args below meth c cX7_text 2 RX7 D tc sa ad sz (some (.int r)) μ' μ 0 [(0, .ref (ad 0 0)), (1, .int a1)] []
  refine J_aload_n (i := 0) (q := 0) (pc1 := 1) dX7_text_0 rfl rfl rfl ?_
  refine J_iconst (v := 1) (pc1 := 2) dX7_text_1 (by decide) rfl ?_
  refine J_iload_n (i := 1) (q := 1) (pc1 := 3) dX7_text_2 rfl rfl rfl ?_
  refine J_iconst (v := 0) (pc1 := 4) dX7_text_3 (by decide) rfl ?_
  refine J_aload_n (i := 0) (q := 0) (pc1 := 5) dX7_text_4 rfl rfl rfl ?_
  refine J_getI (T := TX7) (pc1 := 8) eR0 rfl rfl inX7 13 (by decide) rfl flX7_269 rfl dX7_text_5 rfl ?_
  refine J_iconst (v := 1) (pc1 := 9) dX7_text_8 (by decide) rfl ?_
  refine J_isub (pc1 := 10) dX7_text_9 rfl ?_
  obtain ⟨r2, hc1, h⟩ := gBp_s h
  refine J_callS (As := [.int a1, .int 0, .int ((μ 0 0 13) - 1)]) (st := [.int 1, .ref (ad 0 0)]) (st1 := [.int r2, .int 1, .ref (ad 0 0)]) (pc1 := 13) (kX7_isBetween l D tc sa ad hI a1 0 ((μ 0 0 13) - 1) μ r2 hc1) wcX7_isBetween wlX7_34 rfl ⟨rfl, rfl, Nat.le_of_ble_eq_true rfl, Nat.le_of_ble_eq_true rfl⟩ ⟨Nat.zero_le _, Nat.zero_le _⟩ (Nat.le_of_ble_eq_true rfl) dX7_text_10 rfl rfl ?_
  obtain ⟨x3, e4, h⟩ := gLet_s h
  have k5 : JR p l e ({ frames := 1, cells := 0, slots := 0, locals := 22 } : Room) s m args below meth c cX7_text 2 RX7 D tc sa ad sz (some (.int r)) μ' μ 21 [(0, .ref (ad 0 0)), (1, .int a1)] [.int x3, .int 1, .ref (ad 0 0)] := by
    obtain ⟨r8, μ9, hc7, h⟩ := gBd_s h
    refine J_callV (As := [.int 1, .int x3]) (ad := ad) (f := 0) (i := 0) (st := []) (st1 := [.int r8]) (pc1 := 24) (kX7_fails l D tc sa ad hI 1 x3 μ r8 μ9 hc7) wcX7_fails wlX7_55 eR0 rfl rfl rfl ⟨rfl, rfl, Nat.le_of_ble_eq_true rfl, Nat.le_of_ble_eq_true rfl⟩ ⟨Nat.zero_le _, Nat.zero_le _⟩ (Nat.le_of_ble_eq_true rfl) dX7_text_21 rfl rfl ?_
    refine J_if_eq (tgt := 32) (pc1 := 27) dX7_text_24 (by decide) (fun q10 => ?_) rfl (fun q10 => ?_)
    · rw [if_pos q10] at h
      refine J_aload_n (i := 0) (q := 0) (pc1 := 33) dX7_text_32 rfl rfl rfl ?_
      refine J_getR (T := TX7) (f' := 12) (i' := 0) (pc1 := 36) eR0 rfl rfl inX7 12 (by decide) rfl rfl flX7_23 rfl dX7_text_33 rfl ?_
      refine J_iload_n (i := 1) (q := 1) (pc1 := 37) dX7_text_36 rfl rfl rfl ?_
      obtain ⟨h11, h⟩ := gChk_s h
      refine J_cald (ix := (a1.toNatClampNeg)) (pc1 := 38) rfl eR12 rfl h11 dX7_text_37 rfl ?_
      obtain ⟨h12, h⟩ := gChk_s h
      cases h
      exact J_cret h12 hr hlk dX7_text_38
    · rw [if_neg q10] at h
      refine J_bipush (v := 97) (pc1 := 29) dX7_text_27 (by decide) rfl ?_
      refine J_goto (tgt := 38) dX7_text_29 (by decide) ?_
      cases h
      exact J_cret (by decide) hr hlk dX7_text_38
  refine J_if_ne (tgt := 20) (pc1 := 16) dX7_text_13 (by decide) (fun q6 => ?_) rfl (fun q6 => ?_)
  · rw [if_neg q6] at e4
    subst e4
    refine J_iconst (v := 0) (pc1 := 21) dX7_text_20 (by decide) rfl ?_
    exact k5
  · rw [if_pos q6] at e4
    subst e4
    refine J_iconst (v := 1) (pc1 := 17) dX7_text_16 (by decide) rfl ?_
    refine J_goto (tgt := 21) dX7_text_17 (by decide) ?_
    exact k5
def mX7_save  (μ : gM) : Option (Int32 × gM) :=
  gLet (α := gM) (w3 μ 0 0 0 0) fun μ1 =>
  gLet (α := gM) (w3 μ1 0 0 3 1) fun μ3 =>
  gBp (mX7_copy 1 2 μ3) fun μ6 =>
  some (μ6 1 0 0, μ6)
set_option maxHeartbeats 4000000 in
set_option maxRecDepth 100000 in
theorem kX7_save (l : Launch) (D : va_G) (tc : Nat → ClassId) (sa : Nat → Nat) (ad : Nat → Nat → Nat) (hI : gI gE_R ad)  (μ : gM) (r : Int32) (μ' : gM) (h : mX7_save  μ = some (r, μ')) : gMet l yX7_save cX7_save 1 (some .int) ({ frames := 1, cells := 0, slots := 0, locals := 22 } : Room) D gE_R gkd_R tc ad grh_R sa [.ref (ad 0 0)] μ (some (.int r)) μ' := by
  refine gMet_of hI ⟨by decide +kernel, Nat.le_of_ble_eq_true rfl⟩ (fun p e s m args below meth c sz hr hlk => ?_)
  unfold mX7_save at h
  show JR p l e ({ frames := 1, cells := 0, slots := 0, locals := 22 } : Room) s m args below meth c cX7_save 1 RX7 D tc sa ad sz (some (.int r)) μ' μ 0 [(0, .ref (ad 0 0))] []
  refine J_aload_n (i := 0) (q := 0) (pc1 := 1) dX7_save_0 rfl rfl rfl ?_
  refine J_iconst (v := 0) (pc1 := 2) dX7_save_1 (by decide) rfl ?_
  refine J_putI (T := TX7) (pc1 := 5) eR0 rfl rfl inX7 tyX7 tyX7_ok nmX7 0 (by decide) rfl (fun _ _ _ _ => rfl) flX7_30 rfl rfl rfl rfl dX7_save_2 rfl ?_
  obtain ⟨μ1, e2, h⟩ := gLet_s h
  rw [← e2]
  clear e2
  refine J_aload_n (i := 0) (q := 0) (pc1 := 6) dX7_save_5 rfl rfl rfl ?_
  refine J_iconst (v := 1) (pc1 := 7) dX7_save_6 (by decide) rfl ?_
  refine J_putI (T := TX7) (pc1 := 10) eR0 rfl rfl inX7 tyX7 tyX7_ok nmX7 3 (by decide) rfl (fun _ _ _ _ => rfl) flX7_301 rfl rfl (by decide) (by decide) dX7_save_7 rfl ?_
  obtain ⟨μ3, e4, h⟩ := gLet_s h
  rw [← e4]
  clear e4
  refine J_aload_n (i := 0) (q := 0) (pc1 := 11) dX7_save_10 rfl rfl rfl ?_
  refine J_getR (T := TX7) (f' := 1) (i' := 0) (pc1 := 14) eR0 rfl rfl inX7 1 (by decide) rfl rfl flX7_9 rfl dX7_save_11 rfl ?_
  refine J_aload_n (i := 0) (q := 0) (pc1 := 15) dX7_save_14 rfl rfl rfl ?_
  refine J_getR (T := TX7) (f' := 2) (i' := 0) (pc1 := 18) eR0 rfl rfl inX7 2 (by decide) rfl rfl flX7_13 rfl dX7_save_15 rfl ?_
  obtain ⟨μ6, hc5, h⟩ := gBp_s h
  refine J_callS (As := [.ref (ad 1 0), .ref (ad 2 0)]) (st := []) (st1 := []) (pc1 := 21) (kX7_copy l D tc sa ad hI 1 eR1 rfl 2 eR2 rfl μ3 μ6 hc5) wcX7_copy wlX7_304 rfl ⟨rfl, rfl, Nat.le_of_ble_eq_true rfl, Nat.le_of_ble_eq_true rfl⟩ ⟨Nat.zero_le _, Nat.zero_le _⟩ (Nat.le_of_ble_eq_true rfl) dX7_save_18 rfl rfl ?_
  refine J_aload_n (i := 0) (q := 0) (pc1 := 22) dX7_save_21 rfl rfl rfl ?_
  refine J_getR (T := TX7) (f' := 1) (i' := 0) (pc1 := 25) eR0 rfl rfl inX7 1 (by decide) rfl rfl flX7_9 rfl dX7_save_22 rfl ?_
  refine J_iconst (v := 0) (pc1 := 26) dX7_save_25 (by decide) rfl ?_
  refine J_iald (ix := 0) (pc1 := 27) (by decide) eR1 rfl (by decide : inb 0 1616) dX7_save_26 rfl ?_
  cases h
  exact J_iret hr hlk dX7_save_27
def mX7_restore  (μ : gM) : Option (Int32 × gM) :=
  gLet (α := Int32) (if (μ 0 0 3) = 0 then 1 else 0) fun x1 =>
  gBd (mX7_fails 1 x1 μ) fun r6 μ7 =>
  if r6 = 0 then
    gBp (mX7_copy 2 1 μ7) fun μ10 =>
    some (μ10 1 0 0, μ10)
  else
    some (0, μ7)
set_option maxHeartbeats 4000000 in
set_option maxRecDepth 100000 in
theorem kX7_restore (l : Launch) (D : va_G) (tc : Nat → ClassId) (sa : Nat → Nat) (ad : Nat → Nat → Nat) (hI : gI gE_R ad)  (μ : gM) (r : Int32) (μ' : gM) (h : mX7_restore  μ = some (r, μ')) : gMet l yX7_restore cX7_restore 1 (some .int) ({ frames := 1, cells := 0, slots := 0, locals := 22 } : Room) D gE_R gkd_R tc ad grh_R sa [.ref (ad 0 0)] μ (some (.int r)) μ' := by
  refine gMet_of hI ⟨by decide +kernel, Nat.le_of_ble_eq_true rfl⟩ (fun p e s m args below meth c sz hr hlk => ?_)
  unfold mX7_restore at h
  show JR p l e ({ frames := 1, cells := 0, slots := 0, locals := 22 } : Room) s m args below meth c cX7_restore 1 RX7 D tc sa ad sz (some (.int r)) μ' μ 0 [(0, .ref (ad 0 0))] []
  refine J_aload_n (i := 0) (q := 0) (pc1 := 1) dX7_restore_0 rfl rfl rfl ?_
  refine J_iconst (v := 1) (pc1 := 2) dX7_restore_1 (by decide) rfl ?_
  refine J_aload_n (i := 0) (q := 0) (pc1 := 3) dX7_restore_2 rfl rfl rfl ?_
  refine J_getI (T := TX7) (pc1 := 6) eR0 rfl rfl inX7 3 (by decide) rfl flX7_301 rfl dX7_restore_3 rfl ?_
  obtain ⟨x1, e2, h⟩ := gLet_s h
  have k3 : JR p l e ({ frames := 1, cells := 0, slots := 0, locals := 22 } : Room) s m args below meth c cX7_restore 1 RX7 D tc sa ad sz (some (.int r)) μ' μ 14 [(0, .ref (ad 0 0))] [.int x1, .int 1, .ref (ad 0 0)] := by
    obtain ⟨r6, μ7, hc5, h⟩ := gBd_s h
    refine J_callV (As := [.int 1, .int x1]) (ad := ad) (f := 0) (i := 0) (st := []) (st1 := [.int r6]) (pc1 := 17) (kX7_fails l D tc sa ad hI 1 x1 μ r6 μ7 hc5) wcX7_fails wlX7_55 eR0 rfl rfl rfl ⟨rfl, rfl, Nat.le_of_ble_eq_true rfl, Nat.le_of_ble_eq_true rfl⟩ ⟨Nat.zero_le _, Nat.zero_le _⟩ (Nat.le_of_ble_eq_true rfl) dX7_restore_14 rfl rfl ?_
    refine J_if_eq (tgt := 22) (pc1 := 20) dX7_restore_17 (by decide) (fun q8 => ?_) rfl (fun q8 => ?_)
    · rw [if_pos q8] at h
      refine J_aload_n (i := 0) (q := 0) (pc1 := 23) dX7_restore_22 rfl rfl rfl ?_
      refine J_getR (T := TX7) (f' := 2) (i' := 0) (pc1 := 26) eR0 rfl rfl inX7 2 (by decide) rfl rfl flX7_13 rfl dX7_restore_23 rfl ?_
      refine J_aload_n (i := 0) (q := 0) (pc1 := 27) dX7_restore_26 rfl rfl rfl ?_
      refine J_getR (T := TX7) (f' := 1) (i' := 0) (pc1 := 30) eR0 rfl rfl inX7 1 (by decide) rfl rfl flX7_9 rfl dX7_restore_27 rfl ?_
      obtain ⟨μ10, hc9, h⟩ := gBp_s h
      refine J_callS (As := [.ref (ad 2 0), .ref (ad 1 0)]) (st := []) (st1 := []) (pc1 := 33) (kX7_copy l D tc sa ad hI 2 eR2 rfl 1 eR1 rfl μ7 μ10 hc9) wcX7_copy wlX7_304 rfl ⟨rfl, rfl, Nat.le_of_ble_eq_true rfl, Nat.le_of_ble_eq_true rfl⟩ ⟨Nat.zero_le _, Nat.zero_le _⟩ (Nat.le_of_ble_eq_true rfl) dX7_restore_30 rfl rfl ?_
      refine J_aload_n (i := 0) (q := 0) (pc1 := 34) dX7_restore_33 rfl rfl rfl ?_
      refine J_getR (T := TX7) (f' := 1) (i' := 0) (pc1 := 37) eR0 rfl rfl inX7 1 (by decide) rfl rfl flX7_9 rfl dX7_restore_34 rfl ?_
      refine J_iconst (v := 0) (pc1 := 38) dX7_restore_37 (by decide) rfl ?_
      refine J_iald (ix := 0) (pc1 := 39) (by decide) eR1 rfl (by decide : inb 0 1616) dX7_restore_38 rfl ?_
      cases h
      exact J_iret hr hlk dX7_restore_39
    · rw [if_neg q8] at h
      refine J_iconst (v := 0) (pc1 := 21) dX7_restore_20 (by decide) rfl ?_
      cases h
      exact J_iret hr hlk dX7_restore_21
  refine J_if_ne (tgt := 13) (pc1 := 9) dX7_restore_6 (by decide) (fun q4 => ?_) rfl (fun q4 => ?_)
  · rw [if_neg q4] at e2
    subst e2
    refine J_iconst (v := 0) (pc1 := 14) dX7_restore_13 (by decide) rfl ?_
    exact k3
  · rw [if_pos q4] at e2
    subst e2
    refine J_iconst (v := 1) (pc1 := 10) dX7_restore_9 (by decide) rfl ?_
    refine J_goto (tgt := 14) dX7_restore_10 (by decide) ?_
    exact k3
