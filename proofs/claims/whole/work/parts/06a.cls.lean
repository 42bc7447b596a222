theorem gh0e {nc i j : Nat} {row : Nat → Int32} : grh_C nc row 0 i j = (match j with | 0 => some (6, 0) | 1 => if nc = 2 then some (6, 1) else none | 2 => some (1, 0) | _ => some (23, 0)) := rfl
theorem gh0 {nc i j : Nat} {row row1 : Nat → Int32} : grh_C nc row 0 i j = grh_C nc row1 0 i j := gh0e.trans gh0e.symm
theorem gh1e {nc i j : Nat} {row : Nat → Int32} : grh_C nc row 1 i j = (some (2 + j, 0)) := rfl
theorem gh1 {nc i j : Nat} {row row1 : Nat → Int32} : grh_C nc row 1 i j = grh_C nc row1 1 i j := gh1e.trans gh1e.symm
theorem gh6e {nc i j : Nat} {row : Nat → Int32} : grh_C nc row 6 i j = (match j with | 0 => some (7, i) | 1 => some (9, i) | _ => some (8, i)) := rfl
theorem gh6 {nc i j : Nat} {row row1 : Nat → Int32} : grh_C nc row 6 i j = grh_C nc row1 6 i j := gh6e.trans gh6e.symm
theorem gh11e {nc i j : Nat} {row : Nat → Int32} : grh_C nc row 11 i j = (some (11 + j, i)) := rfl
theorem gh11 {nc i j : Nat} {row row1 : Nat → Int32} : grh_C nc row 11 i j = grh_C nc row1 11 i j := gh11e.trans gh11e.symm
theorem gh12e {nc i j : Nat} {row : Nat → Int32} : grh_C nc row 12 i j = (some (16 + j, i)) := rfl
theorem gh12 {nc i j : Nat} {row row1 : Nat → Int32} : grh_C nc row 12 i j = grh_C nc row1 12 i j := gh12e.trans gh12e.symm
theorem gh19e {nc i j : Nat} {row : Nat → Int32} : grh_C nc row 19 i j = (some (20 + j, i)) := rfl
theorem gh19 {nc i j : Nat} {row row1 : Nat → Int32} : grh_C nc row 19 i j = grh_C nc row1 19 i j := gh19e.trans gh19e.symm
theorem gh9_0e {nc i : Nat} {row : Nat → Int32} : grh_C nc row 9 i 0 = some (10, i) := rfl
theorem gh9_0 {nc i : Nat} {row row1 : Nat → Int32} : grh_C nc row 9 i 0 = grh_C nc row1 9 i 0 := gh9_0e.trans gh9_0e.symm
theorem gh9_1 {nc i : Nat} {row : Nat → Int32} : grh_C nc row 9 i 1 = some (19, (row 1).toNatClampNeg) := rfl
theorem gh9_2 {nc i : Nat} {row : Nat → Int32} : grh_C nc row 9 i 2 = some (19, (row 2).toNatClampNeg) := rfl
theorem gh10 {nc i j : Nat} {row : Nat → Int32} : grh_C nc row 10 i j = some (19, (row j).toNatClampNeg) := rfl
theorem gHrl9 {nc i k0 : Nat} (h1 : k0 ≠ 1) (h2 : k0 ≠ 2) (row : Nat → Int32) (j : Nat) (v : Int32) (hj : [0, 1, 2].contains j = true) : grh_C nc (upd row k0 v) 9 i j = grh_C nc row 9 i j := by
  have : j = 0 ∨ j = 1 ∨ j = 2 := by simpa using hj
  rcases this with rfl | rfl | rfl
  · exact gh9_0
  · rw [gh9_1, gh9_1]; unfold upd; rw [if_neg (Ne.symm h1)]
  · rw [gh9_2, gh9_2]; unfold upd; rw [if_neg (Ne.symm h2)]
theorem gPutM1 {nc i t : Nat} (hnc : nc ≤ 2) (ht : t < 42 * nc) (row : Nat → Int32) (j : Nat) (hj : [0, 1, 2].contains j = true) : grh_C nc (upd row 1 (nI t)) 9 i j = if j = 1 then some (19, t) else grh_C nc row 9 i j := by
  have : j = 0 ∨ j = 1 ∨ j = 2 := by simpa using hj
  rcases this with rfl | rfl | rfl
  · rw [if_neg (by decide)]; exact gh9_0
  · rw [gh9_1, if_pos rfl]; unfold upd; rw [if_pos rfl, gNI hnc ht]
  · rw [gh9_2, gh9_2, if_neg (by decide)]; unfold upd; rw [if_neg (by decide)]
theorem gPutM2 {nc i t : Nat} (hnc : nc ≤ 2) (ht : t < 42 * nc) (row : Nat → Int32) (j : Nat) (hj : [0, 1, 2].contains j = true) : grh_C nc (upd row 2 (nI t)) 9 i j = if j = 2 then some (19, t) else grh_C nc row 9 i j := by
  have : j = 0 ∨ j = 1 ∨ j = 2 := by simpa using hj
  rcases this with rfl | rfl | rfl
  · rw [if_neg (by decide)]; exact gh9_0
  · rw [gh9_1, gh9_1, if_neg (by decide)]; unfold upd; rw [if_neg (by decide)]
  · rw [gh9_2, if_pos rfl]; unfold upd; rw [if_pos rfl, gNI hnc ht]
theorem gAstM {nc i t x : Nat} (hnc : nc ≤ 2) (ht : t < 42 * nc) (row : Nat → Int32) (j : Nat) : grh_C nc (upd row x (nI t)) 10 i j = if j = x then some (19, t) else grh_C nc row 10 i j := by
  rw [gh10, gh10]
  unfold upd
  by_cases h : j = x
  · rw [if_pos h, if_pos h, gNI hnc ht]
  · rw [if_neg h, if_neg h]
theorem flX1_15 : Cond.fieldLink RX1 15 "QuorumLog$Log" "kinds" "[I" ∈ BIG := bigT1 (i := 60) rfl rfl
theorem flX1_25 : Cond.fieldLink RX1 25 "QuorumLog$Log" "baseIndex" "I" ∈ BIG := bigT1 (i := 63) rfl rfl
theorem flX1_108 : Cond.fieldLink RX1 108 "QuorumLog$Log" "configurationIndex" "I" ∈ BIG := bigT1 (i := 71) rfl rfl
theorem flX1_34 : Cond.fieldLink RX1 34 "QuorumLog$Log" "baseOldGroup" "I" ∈ BIG := bigT1 (i := 68) rfl rfl
theorem flX1_101 : Cond.fieldLink RX1 101 "QuorumLog$Log" "oldGroup" "I" ∈ BIG := bigT1 (i := 73) rfl rfl
theorem flX1_37 : Cond.fieldLink RX1 37 "QuorumLog$Log" "baseNewGroup" "I" ∈ BIG := bigT1 (i := 69) rfl rfl
theorem flX1_102 : Cond.fieldLink RX1 102 "QuorumLog$Log" "newGroup" "I" ∈ BIG := bigT1 (i := 76) rfl rfl
theorem flX1_21 : Cond.fieldLink RX1 21 "QuorumLog$Log" "size" "I" ∈ BIG := bigT1 (i := 62) rfl rfl
theorem wlX1_67 : Cond.methodLink RX1 67 yX1_isConfiguration ∈ BIG := bigT2 (i := 174) rfl rfl
theorem imX1_isConfiguration : Cond.instanceMethod yX1_isConfiguration ∈ BIG := bigT2 (i := 176) rfl rfl
theorem seX1_isConfiguration : Cond.selects yX1_isConfiguration.cls yX1_isConfiguration yX1_isConfiguration ∈ BIG := bigS1 (i := 1) (q := (yX1_isConfiguration, 12)) rfl
theorem iniX1 : Cond.initialized RX1 ∈ BIG := bigT1 (i := 4) rfl rfl
theorem cdX1_isConfiguration : Cond.code yX1_isConfiguration cX1_isConfiguration 2 (some .boolean) ∈ BIG := bigT2 (i := 177) rfl rfl
theorem wcX1_isConfiguration : wCv yX1_isConfiguration cX1_isConfiguration 2 (some .boolean) 1 := ⟨⟨imX1_isConfiguration, seX1_isConfiguration, iniX1, cdX1_isConfiguration⟩, by decide +kernel⟩
theorem flX1_18 : Cond.fieldLink RX1 18 "QuorumLog$Log" "values" "[I" ∈ BIG := bigT1 (i := 61) rfl rfl
theorem flX1_28 : Cond.fieldLink RX1 28 "QuorumLog$Log" "baseTerm" "I" ∈ BIG := bigT1 (i := 66) rfl rfl
theorem flX1_31 : Cond.fieldLink RX1 31 "QuorumLog$Log" "baseResult" "I" ∈ BIG := bigT1 (i := 67) rfl rfl
theorem wlX1_40 : Cond.methodLink RX1 40 yX1_findConfiguration ∈ BIG := bigT2 (i := 170) rfl rfl
theorem imX1_findConfiguration : Cond.instanceMethod yX1_findConfiguration ∈ BIG := bigT2 (i := 172) rfl rfl
theorem seX1_findConfiguration : Cond.selects yX1_findConfiguration.cls yX1_findConfiguration yX1_findConfiguration ∈ BIG := bigS1 (i := 0) (q := (yX1_findConfiguration, 12)) rfl
theorem cdX1_findConfiguration : Cond.code yX1_findConfiguration cX1_findConfiguration 2 (none) ∈ BIG := bigT2 (i := 173) rfl rfl
theorem wcX1_findConfiguration : wCv yX1_findConfiguration cX1_findConfiguration 2 (none) 0 := ⟨⟨imX1_findConfiguration, seX1_findConfiguration, iniX1, cdX1_findConfiguration⟩, by decide +kernel⟩
theorem flX2_9 : Cond.fieldLink RX2 9 "QuorumLog$Message" "terms" "[I" ∈ BIG := bigT1 (i := 176) rfl rfl
theorem wlX2_47 : Cond.methodLink RX2 47 arraycopyName ∈ BIG := bigT2 (i := 219) rfl rfl
theorem acNat : Cond.native arraycopyName ∈ BIG := bigT2 (i := 210) rfl rfl
theorem acSt : Cond.static arraycopyName ∈ BIG := bigT2 (i := 209) rfl rfl
theorem iniSys : Cond.initialized "java/lang/System" ∈ BIG := bigT1 (i := 20) rfl rfl
theorem flX2_15 : Cond.fieldLink RX2 15 "QuorumLog$Message" "kinds" "[I" ∈ BIG := bigT1 (i := 179) rfl rfl
theorem flX2_18 : Cond.fieldLink RX2 18 "QuorumLog$Message" "values" "[I" ∈ BIG := bigT1 (i := 182) rfl rfl
theorem flX2_21 : Cond.fieldLink RX2 21 "QuorumLog$Message" "count" "I" ∈ BIG := bigT1 (i := 185) rfl rfl
theorem flX2_53 : Cond.fieldLink RX2 53 "QuorumLog$Message" "kind" "I" ∈ BIG := bigT1 (i := 188) rfl rfl
theorem flX2_56 : Cond.fieldLink RX2 56 "QuorumLog$Message" "sender" "I" ∈ BIG := bigT1 (i := 191) rfl rfl
theorem flX2_59 : Cond.fieldLink RX2 59 "QuorumLog$Message" "receiver" "I" ∈ BIG := bigT1 (i := 195) rfl rfl
theorem flX2_62 : Cond.fieldLink RX2 62 "QuorumLog$Message" "term" "I" ∈ BIG := bigT1 (i := 199) rfl rfl
theorem flX2_65 : Cond.fieldLink RX2 65 "QuorumLog$Message" "due" "I" ∈ BIG := bigT1 (i := 202) rfl rfl
theorem flX2_68 : Cond.fieldLink RX2 68 "QuorumLog$Message" "told" "I" ∈ BIG := bigT1 (i := 206) rfl rfl
theorem flX2_25 : Cond.fieldLink RX2 25 "QuorumLog$Message" "index" "I" ∈ BIG := bigT1 (i := 208) rfl rfl
theorem flX2_28 : Cond.fieldLink RX2 28 "QuorumLog$Message" "indexTerm" "I" ∈ BIG := bigT1 (i := 212) rfl rfl
theorem flX2_31 : Cond.fieldLink RX2 31 "QuorumLog$Message" "isGranted" "Z" ∈ BIG := bigT1 (i := 215) rfl rfl
theorem flX2_35 : Cond.fieldLink RX2 35 "QuorumLog$Message" "commit" "I" ∈ BIG := bigT1 (i := 217) rfl rfl
theorem flX2_38 : Cond.fieldLink RX2 38 "QuorumLog$Message" "result" "I" ∈ BIG := bigT1 (i := 219) rfl rfl
theorem flX2_41 : Cond.fieldLink RX2 41 "QuorumLog$Message" "oldGroup" "I" ∈ BIG := bigT1 (i := 221) rfl rfl
theorem flX2_44 : Cond.fieldLink RX2 44 "QuorumLog$Message" "newGroup" "I" ∈ BIG := bigT1 (i := 223) rfl rfl
theorem flX1_9 : Cond.fieldLink RX1 9 "QuorumLog$Log" "terms" "[I" ∈ BIG := bigT1 (i := 59) rfl rfl
theorem wlX1_43 : Cond.methodLink RX1 43 arraycopyName ∈ BIG := bigT2 (i := 228) rfl rfl
theorem wlX1_53 : Cond.methodLink RX1 53 yX1_lastTerm ∈ BIG := bigT3 (i := 121) rfl rfl
theorem imX1_lastTerm : Cond.instanceMethod yX1_lastTerm ∈ BIG := bigT3 (i := 122) rfl rfl
theorem seX1_lastTerm : Cond.selects yX1_lastTerm.cls yX1_lastTerm yX1_lastTerm ∈ BIG := bigT3 (i := 123) rfl rfl
theorem cdX1_lastTerm : Cond.code yX1_lastTerm cX1_lastTerm 1 (some .int) ∈ BIG := bigT3 (i := 124) rfl rfl
theorem wcX1_lastTerm : wCv yX1_lastTerm cX1_lastTerm 1 (some .int) 0 := ⟨⟨imX1_lastTerm, seX1_lastTerm, iniX1, cdX1_lastTerm⟩, by decide +kernel⟩
theorem wlX1_57 : Cond.methodLink RX1 57 yX1_lastIndex ∈ BIG := bigT3 (i := 125) rfl rfl
theorem imX1_lastIndex : Cond.instanceMethod yX1_lastIndex ∈ BIG := bigT3 (i := 126) rfl rfl
theorem seX1_lastIndex : Cond.selects yX1_lastIndex.cls yX1_lastIndex yX1_lastIndex ∈ BIG := bigT3 (i := 127) rfl rfl
theorem cdX1_lastIndex : Cond.code yX1_lastIndex cX1_lastIndex 1 (some .int) ∈ BIG := bigT3 (i := 128) rfl rfl
theorem wcX1_lastIndex : wCv yX1_lastIndex cX1_lastIndex 1 (some .int) 0 := ⟨⟨imX1_lastIndex, seX1_lastIndex, iniX1, cdX1_lastIndex⟩, by decide +kernel⟩
theorem ctJ6_265 : Cond.constant RJ6 265 (1431655765) ∈ BIG := bigT3 (i := 76) rfl rfl
theorem ctJ6_266 : Cond.constant RJ6 266 (858993459) ∈ BIG := bigT3 (i := 77) rfl rfl
theorem ctJ6_267 : Cond.constant RJ6 267 (252645135) ∈ BIG := bigT3 (i := 78) rfl rfl
theorem wlX1_103 : Cond.methodLink RX1 103 yJ6_bitCount_0f7a4 ∈ BIG := bigT3 (i := 153) rfl rfl
theorem stJ6_bitCount_0f7a4 : Cond.static yJ6_bitCount_0f7a4 ∈ BIG := bigT3 (i := 74) rfl rfl
theorem iniJ6 : Cond.initialized RJ6 ∈ BIG := bigT1 (i := 18) rfl rfl
theorem cdJ6_bitCount_0f7a4 : Cond.code yJ6_bitCount_0f7a4 cJ6_bitCount_0f7a4 1 (some .int) ∈ BIG := bigT3 (i := 75) rfl rfl
theorem wcJ6_bitCount_0f7a4 : wCs yJ6_bitCount_0f7a4 cJ6_bitCount_0f7a4 1 (some .int) 1 := ⟨⟨stJ6_bitCount_0f7a4, iniJ6, cdJ6_bitCount_0f7a4⟩, by decide +kernel⟩
theorem flX1_75 : Cond.fieldLink RX1 75 "QuorumLog$Message" "index" "I" ∈ BIG := bigT1 (i := 211) rfl rfl
theorem flX1_83 : Cond.fieldLink RX1 83 "QuorumLog$Message" "indexTerm" "I" ∈ BIG := bigT1 (i := 214) rfl rfl
theorem flX1_86 : Cond.fieldLink RX1 86 "QuorumLog$Message" "result" "I" ∈ BIG := bigT1 (i := 220) rfl rfl
theorem flX1_89 : Cond.fieldLink RX1 89 "QuorumLog$Message" "oldGroup" "I" ∈ BIG := bigT1 (i := 222) rfl rfl
theorem flX1_92 : Cond.fieldLink RX1 92 "QuorumLog$Message" "newGroup" "I" ∈ BIG := bigT1 (i := 224) rfl rfl
theorem wlX1_49 : Cond.methodLink RX1 49 yX1_partAt ∈ BIG := bigT3 (i := 176) rfl rfl
theorem imX1_partAt : Cond.instanceMethod yX1_partAt ∈ BIG := bigT3 (i := 178) rfl rfl
theorem seX1_partAt : Cond.selects yX1_partAt.cls yX1_partAt yX1_partAt ∈ BIG := bigS1 (i := 10) (q := (yX1_partAt, 12)) rfl
theorem cdX1_partAt : Cond.code yX1_partAt cX1_partAt 5 (some .int) ∈ BIG := bigT3 (i := 179) rfl rfl
theorem wcX1_partAt : wCv yX1_partAt cX1_partAt 5 (some .int) 3 := ⟨⟨imX1_partAt, seX1_partAt, iniX1, cdX1_partAt⟩, by decide +kernel⟩
theorem flX1_95 : Cond.fieldLink RX1 95 "QuorumLog$Message" "count" "I" ∈ BIG := bigT1 (i := 186) rfl rfl
theorem flX1_98 : Cond.fieldLink RX1 98 "QuorumLog$Message" "terms" "[I" ∈ BIG := bigT1 (i := 177) rfl rfl
theorem flX1_99 : Cond.fieldLink RX1 99 "QuorumLog$Message" "kinds" "[I" ∈ BIG := bigT1 (i := 180) rfl rfl
theorem flX1_100 : Cond.fieldLink RX1 100 "QuorumLog$Message" "values" "[I" ∈ BIG := bigT1 (i := 183) rfl rfl
theorem imX1_termAt : Cond.instanceMethod yX1_termAt ∈ BIG := bigT3 (i := 173) rfl rfl
theorem seX1_termAt : Cond.selects yX1_termAt.cls yX1_termAt yX1_termAt ∈ BIG := bigT3 (i := 174) rfl rfl
theorem cdX1_termAt : Cond.code yX1_termAt cX1_termAt 2 (some .int) ∈ BIG := bigT3 (i := 175) rfl rfl
theorem wcX1_termAt : wCv yX1_termAt cX1_termAt 2 (some .int) 1 := ⟨⟨imX1_termAt, seX1_termAt, iniX1, cdX1_termAt⟩, by decide +kernel⟩
theorem wlX1_60 : Cond.methodLink RX1 60 yX1_termAt ∈ BIG := bigT3 (i := 196) rfl rfl
theorem imX1_has : Cond.instanceMethod yX1_has ∈ BIG := bigT3 (i := 199) rfl rfl
theorem seX1_has : Cond.selects yX1_has.cls yX1_has yX1_has ∈ BIG := bigT3 (i := 200) rfl rfl
theorem cdX1_has : Cond.code yX1_has cX1_has 2 (some .boolean) ∈ BIG := bigT3 (i := 201) rfl rfl
theorem wcX1_has : wCv yX1_has cX1_has 2 (some .boolean) 1 := ⟨⟨imX1_has, seX1_has, iniX1, cdX1_has⟩, by decide +kernel⟩
theorem wlX1_80 : Cond.methodLink RX1 80 yX1_has ∈ BIG := bigT3 (i := 218) rfl rfl
theorem wlX1_71 : Cond.methodLink RX1 71 yX1_dropFirst ∈ BIG := bigT3 (i := 219) rfl rfl
theorem imX1_dropFirst : Cond.instanceMethod yX1_dropFirst ∈ BIG := bigT3 (i := 221) rfl rfl
theorem seX1_dropFirst : Cond.selects yX1_dropFirst.cls yX1_dropFirst yX1_dropFirst ∈ BIG := bigS1 (i := 14) (q := (yX1_dropFirst, 12)) rfl
theorem cdX1_dropFirst : Cond.code yX1_dropFirst cX1_dropFirst 2 (none) ∈ BIG := bigT3 (i := 222) rfl rfl
theorem wcX1_dropFirst : wCv yX1_dropFirst cX1_dropFirst 2 (none) 1 := ⟨⟨imX1_dropFirst, seX1_dropFirst, iniX1, cdX1_dropFirst⟩, by decide +kernel⟩
theorem wlX1_64 : Cond.methodLink RX1 64 yX1_resultAt ∈ BIG := bigT4 (i := 192) rfl rfl
theorem imX1_resultAt : Cond.instanceMethod yX1_resultAt ∈ BIG := bigT4 (i := 193) rfl rfl
theorem seX1_resultAt : Cond.selects yX1_resultAt.cls yX1_resultAt yX1_resultAt ∈ BIG := bigT4 (i := 194) rfl rfl
theorem cdX1_resultAt : Cond.code yX1_resultAt cX1_resultAt 4 (some .int) ∈ BIG := bigT4 (i := 195) rfl rfl
theorem wcX1_resultAt : wCv yX1_resultAt cX1_resultAt 4 (some .int) 1 := ⟨⟨imX1_resultAt, seX1_resultAt, iniX1, cdX1_resultAt⟩, by decide +kernel⟩
def mX1_isConfiguration (nc : Nat) (n0 : Nat) (a1 : Int32) (μ : gM) : Option Int32 :=
  gChk (inb a1 24) <|
  if (μ 17 n0 (a1.toNatClampNeg)) = 1 then
    some 1
  else
    gChk (inb a1 24) <|
    if (μ 17 n0 (a1.toNatClampNeg)) = 2 then
      some 1
    else
      some 0
set_option maxHeartbeats 4000000 in
set_option maxRecDepth 100000 in
theorem kX1_isConfiguration (l : Launch) (D : va_G) (tc : Nat → ClassId) (sa : Nat → Nat) (ad : Nat → Nat → Nat) (nc : Nat) (hnc : 0 < nc ∧ nc ≤ 2) (hI : gI (gE_C nc) ad) (n0 : Nat) (hn0 : n0 < 5 * nc) (a1 : Int32) (μ : gM) (r : Int32) (h : mX1_isConfiguration nc n0 a1 μ = some r) : gMet l yX1_isConfiguration cX1_isConfiguration 2 (some .boolean) ({ frames := 0, cells := 0, slots := 0, locals := 0 } : Room) D (gE_C nc) gkd_C tc ad (grh_C nc) sa [.ref (ad 12 n0), .int a1] μ (some (.int r)) μ := by
  refine gMet_of hI ⟨by decide +kernel, Nat.le_of_ble_eq_true rfl⟩ (fun p e s m args below meth c sz hr hlk => ?_)
  unfold mX1_isConfiguration at h
  show JC p l e ({ frames := 0, cells := 0, slots := 0, locals := 0 } : Room) s m args below meth c cX1_isConfiguration 2 RX1 D tc sa ad nc sz (some (.int r)) μ μ 0 [(0, .ref (ad 12 n0)), (1, .int a1)] []
  refine J_aload_n (i := 0) (q := 0) (pc1 := 1) dX1_isConfiguration_0 rfl rfl rfl ?_
  refine J_getR (T := TX1) (f' := 17) (i' := n0) (pc1 := 4) (eC12 hn0) rfl rfl inX1 1 (by decide) rfl rfl flX1_15 rfl dX1_isConfiguration_1 rfl ?_
  refine J_iload_n (i := 1) (q := 1) (pc1 := 5) dX1_isConfiguration_4 rfl rfl rfl ?_
  obtain ⟨h1, h⟩ := gChk_s h
  refine J_iald (ix := (a1.toNatClampNeg)) (pc1 := 6) rfl (eC17 hn0) rfl h1 dX1_isConfiguration_5 rfl ?_
  refine J_iconst (v := 1) (pc1 := 7) dX1_isConfiguration_6 (by decide) rfl ?_
  refine J_icmp_eq (tgt := 20) (pc1 := 10) dX1_isConfiguration_7 (by decide) (fun q2 => ?_) rfl (fun q2 => ?_)
  · rw [if_pos q2] at h
    refine J_iconst (v := 1) (pc1 := 21) dX1_isConfiguration_20 (by decide) rfl ?_
    refine J_goto (tgt := 25) dX1_isConfiguration_21 (by decide) ?_
    cases h
    exact J_zret (by decide) hr hlk dX1_isConfiguration_25
  · rw [if_neg q2] at h
    refine J_aload_n (i := 0) (q := 0) (pc1 := 11) dX1_isConfiguration_10 rfl rfl rfl ?_
    refine J_getR (T := TX1) (f' := 17) (i' := n0) (pc1 := 14) (eC12 hn0) rfl rfl inX1 1 (by decide) rfl rfl flX1_15 rfl dX1_isConfiguration_11 rfl ?_
    refine J_iload_n (i := 1) (q := 1) (pc1 := 15) dX1_isConfiguration_14 rfl rfl rfl ?_
    obtain ⟨h3, h⟩ := gChk_s h
    refine J_iald (ix := (a1.toNatClampNeg)) (pc1 := 16) rfl (eC17 hn0) rfl h3 dX1_isConfiguration_15 rfl ?_
    refine J_iconst (v := 2) (pc1 := 17) dX1_isConfiguration_16 (by decide) rfl ?_
    refine J_icmp_ne (tgt := 24) (pc1 := 20) dX1_isConfiguration_17 (by decide) (fun q4 => ?_) rfl (fun q4 => ?_)
    · rw [if_neg q4] at h
      refine J_iconst (v := 0) (pc1 := 25) dX1_isConfiguration_24 (by decide) rfl ?_
      cases h
      exact J_zret (by decide) hr hlk dX1_isConfiguration_25
    · rw [if_pos q4] at h
      refine J_iconst (v := 1) (pc1 := 21) dX1_isConfiguration_20 (by decide) rfl ?_
      refine J_goto (tgt := 25) dX1_isConfiguration_21 (by decide) ?_
      cases h
      exact J_zret (by decide) hr hlk dX1_isConfiguration_25
def mX1_findConfiguration (nc : Nat) (n0 : Nat) (μ : gM) : Option gM :=
  gLet (α := gM) (w3 μ 12 n0 9 (μ 12 n0 4)) fun μ1 =>
  gLet (α := gM) (w3 μ1 12 n0 10 (μ1 12 n0 7)) fun μ3 =>
  gLet (α := gM) (w3 μ3 12 n0 11 (μ3 12 n0 8)) fun μ5 =>
  gJon (fun (μ7 : gM) =>
      some μ7) fun j8 =>
  gFx2 (fun rec11 (x9 : Int32) (μ10 : gM) =>
      if (μ10 12 n0 3) ≤ x9 then
        j8 μ10
      else
        if 24 ≤ x9 then
          j8 μ10
        else
          gBp (mX1_isConfiguration nc n0 x9 μ10) fun r15 =>
          if r15 = 0 then
            rec11 (x9 + 1) μ10
          else
            gLet (α := gM) (w3 μ10 12 n0 9 (((μ10 12 n0 4) + 1) + x9)) fun μ17 =>
            gChk (inb x9 24) <|
            gLet (α := gM) (w3 μ17 12 n0 10 ((μ17 18 n0 (x9.toNatClampNeg)) / 32)) fun μ20 =>
            gChk (inb x9 24) <|
            gLet (α := gM) (w3 μ20 12 n0 11 ((μ20 18 n0 (x9.toNatClampNeg)) - (μ20 18 n0 (x9.toNatClampNeg)) / 32 * 32)) fun μ23 =>
            rec11 (x9 + 1) μ23) 1000000 0 μ5
set_option maxHeartbeats 4000000 in
set_option maxRecDepth 100000 in
theorem kX1_findConfiguration (l : Launch) (D : va_G) (tc : Nat → ClassId) (sa : Nat → Nat) (ad : Nat → Nat → Nat) (nc : Nat) (hnc : 0 < nc ∧ nc ≤ 2) (hI : gI (gE_C nc) ad) (n0 : Nat) (hn0 : n0 < 5 * nc) (μ : gM) (μ' : gM) (h : mX1_findConfiguration nc n0 μ = some μ') : gMet l yX1_findConfiguration cX1_findConfiguration 2 (none) ({ frames := 1, cells := 0, slots := 0, locals := 21 } : Room) D (gE_C nc) gkd_C tc ad (grh_C nc) sa [.ref (ad 12 n0)] μ (none) μ' := by
  refine gMet_of hI ⟨by decide +kernel, Nat.le_of_ble_eq_true rfl⟩ (fun p e s m args below meth c sz hr hlk => ?_)
  unfold mX1_findConfiguration at h
  show JC p l e ({ frames := 1, cells := 0, slots := 0, locals := 21 } : Room) s m args below meth c cX1_findConfiguration 2 RX1 D tc sa ad nc sz (none) μ' μ 0 [(0, .ref (ad 12 n0))] []
  refine J_aload_n (i := 0) (q := 0) (pc1 := 1) dX1_findConfiguration_0 rfl rfl rfl ?_
  refine J_aload_n (i := 0) (q := 0) (pc1 := 2) dX1_findConfiguration_1 rfl rfl rfl ?_
  refine J_getI (T := TX1) (pc1 := 5) (eC12 hn0) rfl rfl inX1 4 (by decide) rfl flX1_25 rfl dX1_findConfiguration_2 rfl ?_
  refine J_putI (T := TX1) (pc1 := 8) (eC12 hn0) rfl rfl inX1 tyX1 tyX1_ok nmX1 9 (by decide) rfl (fun _ _ _ _ => gh12) flX1_108 rfl rfl rfl rfl dX1_findConfiguration_5 rfl ?_
  obtain ⟨μ1, e2, h⟩ := gLet_s h
  rw [← e2]
  clear e2
  refine J_aload_n (i := 0) (q := 0) (pc1 := 9) dX1_findConfiguration_8 rfl rfl rfl ?_
  refine J_aload_n (i := 0) (q := 0) (pc1 := 10) dX1_findConfiguration_9 rfl rfl rfl ?_
  refine J_getI (T := TX1) (pc1 := 13) (eC12 hn0) rfl rfl inX1 7 (by decide) rfl flX1_34 rfl dX1_findConfiguration_10 rfl ?_
  refine J_putI (T := TX1) (pc1 := 16) (eC12 hn0) rfl rfl inX1 tyX1 tyX1_ok nmX1 10 (by decide) rfl (fun _ _ _ _ => gh12) flX1_101 rfl rfl rfl rfl dX1_findConfiguration_13 rfl ?_
  obtain ⟨μ3, e4, h⟩ := gLet_s h
  rw [← e4]
  clear e4
  refine J_aload_n (i := 0) (q := 0) (pc1 := 17) dX1_findConfiguration_16 rfl rfl rfl ?_
  refine J_aload_n (i := 0) (q := 0) (pc1 := 18) dX1_findConfiguration_17 rfl rfl rfl ?_
  refine J_getI (T := TX1) (pc1 := 21) (eC12 hn0) rfl rfl inX1 8 (by decide) rfl flX1_37 rfl dX1_findConfiguration_18 rfl ?_
  refine J_putI (T := TX1) (pc1 := 24) (eC12 hn0) rfl rfl inX1 tyX1 tyX1_ok nmX1 11 (by decide) rfl (fun _ _ _ _ => gh12) flX1_102 rfl rfl rfl rfl dX1_findConfiguration_21 rfl ?_
  obtain ⟨μ5, e6, h⟩ := gLet_s h
  rw [← e6]
  clear e6
  refine J_iconst (v := 0) (pc1 := 25) dX1_findConfiguration_24 (by decide) rfl ?_
  refine J_istore_n (i := 1) (lv1 := [(1, .int 0), (0, .ref (ad 12 n0))]) (pc1 := 26) dX1_findConfiguration_25 rfl (by decide) rfl rfl ?_
  obtain ⟨j8, ej8, h⟩ := gJon_s h
  have kj8 : ∀ (μ7 : gM), j8 μ7 = some μ' → JC p l e ({ frames := 1, cells := 0, slots := 0, locals := 21 } : Room) s m args below meth c cX1_findConfiguration 2 RX1 D tc sa ad nc sz (none) μ' μ7 92 [] [] := by
    intro μ7 h
    rw [ej8] at h
    try dsimp only at h
    cases h
    exact J_vret hr hlk dX1_findConfiguration_92
  clear ej8
  refine J_sub [1, 0] (lv1 := [(0, .ref (ad 12 n0)), (1, .int 0)]) rfl ?_
  refine gFx2_s (P := fun x9 μ10 => JC p l e ({ frames := 1, cells := 0, slots := 0, locals := 21 } : Room) s m args below meth c cX1_findConfiguration 2 RX1 D tc sa ad nc sz (none) μ' μ10 26 [(0, .ref (ad 12 n0)), (1, .int x9)] []) (fun rec11 ihrec11 x9 μ10 h => ?_) _ _ _ h
  try dsimp only at h
  refine J_iload_n (i := 1) (q := 1) (pc1 := 27) dX1_findConfiguration_26 rfl rfl rfl ?_
  refine J_aload_n (i := 0) (q := 0) (pc1 := 28) dX1_findConfiguration_27 rfl rfl rfl ?_
  refine J_getI (T := TX1) (pc1 := 31) (eC12 hn0) rfl rfl inX1 3 (by decide) rfl flX1_21 rfl dX1_findConfiguration_28 rfl ?_
  refine J_icmp_ge (tgt := 92) (pc1 := 34) dX1_findConfiguration_31 (by decide) (fun q12 => ?_) rfl (fun q12 => ?_)
  · rw [if_pos q12] at h
    refine J_sub [] (lv1 := []) rfl ?_
    exact kj8 _ h
  · rw [if_neg q12] at h
    refine J_iload_n (i := 1) (q := 1) (pc1 := 35) dX1_findConfiguration_34 rfl rfl rfl ?_
    refine J_bipush (v := 24) (pc1 := 37) dX1_findConfiguration_35 (by decide) rfl ?_
    refine J_icmp_ge (tgt := 92) (pc1 := 40) dX1_findConfiguration_37 (by decide) (fun q13 => ?_) rfl (fun q13 => ?_)
    · rw [if_pos q13] at h
      refine J_sub [] (lv1 := []) rfl ?_
      exact kj8 _ h
    · rw [if_neg q13] at h
      refine J_aload_n (i := 0) (q := 0) (pc1 := 41) dX1_findConfiguration_40 rfl rfl rfl ?_
      refine J_iload_n (i := 1) (q := 1) (pc1 := 42) dX1_findConfiguration_41 rfl rfl rfl ?_
      obtain ⟨r15, hc14, h⟩ := gBp_s h
      refine J_callV (As := [.int x9]) (ad := ad) (f := 12) (i := n0) (st := []) (st1 := [.int r15]) (pc1 := 45) (kX1_isConfiguration l D tc sa ad nc hnc hI n0 hn0 x9 μ10 r15 hc14) wcX1_isConfiguration wlX1_67 (eC12 hn0) rfl rfl rfl ⟨rfl, rfl, Nat.le_of_ble_eq_true rfl, Nat.le_of_ble_eq_true rfl⟩ ⟨Nat.zero_le _, Nat.zero_le _⟩ (Nat.le_of_ble_eq_true rfl) dX1_findConfiguration_42 rfl rfl ?_
      refine J_if_eq (tgt := 86) (pc1 := 48) dX1_findConfiguration_45 (by decide) (fun q16 => ?_) rfl (fun q16 => ?_)
      · rw [if_pos q16] at h
        refine J_iinc (i := 1) (q := 1) (v := x9 + 1) (lv1 := [(1, .int (x9 + 1)), (0, .ref (ad 12 n0))]) (pc1 := 89) dX1_findConfiguration_86 rfl rfl (by decide) rfl rfl ?_
        refine J_goto (tgt := 26) dX1_findConfiguration_89 (by decide) ?_
        refine J_sub [1, 0] (lv1 := [(0, .ref (ad 12 n0)), (1, .int (x9 + 1))]) rfl ?_
        exact ihrec11 _ _ h
      · rw [if_neg q16] at h
        refine J_aload_n (i := 0) (q := 0) (pc1 := 49) dX1_findConfiguration_48 rfl rfl rfl ?_
        refine J_aload_n (i := 0) (q := 0) (pc1 := 50) dX1_findConfiguration_49 rfl rfl rfl ?_
        refine J_getI (T := TX1) (pc1 := 53) (eC12 hn0) rfl rfl inX1 4 (by decide) rfl flX1_25 rfl dX1_findConfiguration_50 rfl ?_
        refine J_iconst (v := 1) (pc1 := 54) dX1_findConfiguration_53 (by decide) rfl ?_
        refine J_iadd (pc1 := 55) dX1_findConfiguration_54 rfl ?_
        refine J_iload_n (i := 1) (q := 1) (pc1 := 56) dX1_findConfiguration_55 rfl rfl rfl ?_
        refine J_iadd (pc1 := 57) dX1_findConfiguration_56 rfl ?_
        refine J_putI (T := TX1) (pc1 := 60) (eC12 hn0) rfl rfl inX1 tyX1 tyX1_ok nmX1 9 (by decide) rfl (fun _ _ _ _ => gh12) flX1_108 rfl rfl rfl rfl dX1_findConfiguration_57 rfl ?_
        obtain ⟨μ17, e18, h⟩ := gLet_s h
        rw [← e18]
        clear e18
        refine J_aload_n (i := 0) (q := 0) (pc1 := 61) dX1_findConfiguration_60 rfl rfl rfl ?_
        refine J_aload_n (i := 0) (q := 0) (pc1 := 62) dX1_findConfiguration_61 rfl rfl rfl ?_
        refine J_getR (T := TX1) (f' := 18) (i' := n0) (pc1 := 65) (eC12 hn0) rfl rfl inX1 2 (by decide) rfl rfl flX1_18 rfl dX1_findConfiguration_62 rfl ?_
        refine J_iload_n (i := 1) (q := 1) (pc1 := 66) dX1_findConfiguration_65 rfl rfl rfl ?_
        obtain ⟨h19, h⟩ := gChk_s h
        refine J_iald (ix := (x9.toNatClampNeg)) (pc1 := 67) rfl (eC18 hn0) rfl h19 dX1_findConfiguration_66 rfl ?_
        refine J_bipush (v := 32) (pc1 := 69) dX1_findConfiguration_67 (by decide) rfl ?_
        refine J_idiv (pc1 := 70) dX1_findConfiguration_69 (by decide) rfl ?_
        refine J_putI (T := TX1) (pc1 := 73) (eC12 hn0) rfl rfl inX1 tyX1 tyX1_ok nmX1 10 (by decide) rfl (fun _ _ _ _ => gh12) flX1_101 rfl rfl rfl rfl dX1_findConfiguration_70 rfl ?_
        obtain ⟨μ20, e21, h⟩ := gLet_s h
        rw [← e21]
        clear e21
        refine J_aload_n (i := 0) (q := 0) (pc1 := 74) dX1_findConfiguration_73 rfl rfl rfl ?_
        refine J_aload_n (i := 0) (q := 0) (pc1 := 75) dX1_findConfiguration_74 rfl rfl rfl ?_
        refine J_getR (T := TX1) (f' := 18) (i' := n0) (pc1 := 78) (eC12 hn0) rfl rfl inX1 2 (by decide) rfl rfl flX1_18 rfl dX1_findConfiguration_75 rfl ?_
        refine J_iload_n (i := 1) (q := 1) (pc1 := 79) dX1_findConfiguration_78 rfl rfl rfl ?_
        obtain ⟨h22, h⟩ := gChk_s h
        refine J_iald (ix := (x9.toNatClampNeg)) (pc1 := 80) rfl (eC18 hn0) rfl h22 dX1_findConfiguration_79 rfl ?_
        refine J_bipush (v := 32) (pc1 := 82) dX1_findConfiguration_80 (by decide) rfl ?_
        refine J_irem (pc1 := 83) dX1_findConfiguration_82 (by decide) rfl ?_
        refine J_putI (T := TX1) (pc1 := 86) (eC12 hn0) rfl rfl inX1 tyX1 tyX1_ok nmX1 11 (by decide) rfl (fun _ _ _ _ => gh12) flX1_102 rfl rfl rfl rfl dX1_findConfiguration_83 rfl ?_
        obtain ⟨μ23, e24, h⟩ := gLet_s h
        rw [← e24]
        clear e24
        refine J_iinc (i := 1) (q := 1) (v := x9 + 1) (lv1 := [(1, .int (x9 + 1)), (0, .ref (ad 12 n0))]) (pc1 := 89) dX1_findConfiguration_86 rfl rfl (by decide) rfl rfl ?_
        refine J_goto (tgt := 26) dX1_findConfiguration_89 (by decide) ?_
        refine J_sub [1, 0] (lv1 := [(0, .ref (ad 12 n0)), (1, .int (x9 + 1))]) rfl ?_
        exact ihrec11 _ _ h
def mX1_clear (nc : Nat) (n0 : Nat) (a1 : Int32) (μ : gM) : Option gM :=
  gLet (α := gM) (w3 μ 12 n0 3 0) fun μ1 =>
  gLet (α := gM) (w3 μ1 12 n0 4 0) fun μ3 =>
  gLet (α := gM) (w3 μ3 12 n0 5 0) fun μ5 =>
  gLet (α := gM) (w3 μ5 12 n0 6 0) fun μ7 =>
  gLet (α := gM) (w3 μ7 12 n0 7 0) fun μ9 =>
  gLet (α := gM) (w3 μ9 12 n0 8 a1) fun μ11 =>
  gBp (mX1_findConfiguration nc n0 μ11) fun μ14 =>
  some μ14
set_option maxHeartbeats 4000000 in
set_option maxRecDepth 100000 in
theorem kX1_clear (l : Launch) (D : va_G) (tc : Nat → ClassId) (sa : Nat → Nat) (ad : Nat → Nat → Nat) (nc : Nat) (hnc : 0 < nc ∧ nc ≤ 2) (hI : gI (gE_C nc) ad) (n0 : Nat) (hn0 : n0 < 5 * nc) (a1 : Int32) (μ : gM) (μ' : gM) (h : mX1_clear nc n0 a1 μ = some μ') : gMet l yX1_clear cX1_clear 2 (none) ({ frames := 2, cells := 0, slots := 0, locals := 42 } : Room) D (gE_C nc) gkd_C tc ad (grh_C nc) sa [.ref (ad 12 n0), .int a1] μ (none) μ' := by
  refine gMet_of hI ⟨by decide +kernel, Nat.le_of_ble_eq_true rfl⟩ (fun p e s m args below meth c sz hr hlk => ?_)
  unfold mX1_clear at h
  show JC p l e ({ frames := 2, cells := 0, slots := 0, locals := 42 } : Room) s m args below meth c cX1_clear 2 RX1 D tc sa ad nc sz (none) μ' μ 0 [(0, .ref (ad 12 n0)), (1, .int a1)] []
  refine J_aload_n (i := 0) (q := 0) (pc1 := 1) dX1_clear_0 rfl rfl rfl ?_
  refine J_iconst (v := 0) (pc1 := 2) dX1_clear_1 (by decide) rfl ?_
  refine J_putI (T := TX1) (pc1 := 5) (eC12 hn0) rfl rfl inX1 tyX1 tyX1_ok nmX1 3 (by decide) rfl (fun _ _ _ _ => gh12) flX1_21 rfl rfl rfl rfl dX1_clear_2 rfl ?_
  obtain ⟨μ1, e2, h⟩ := gLet_s h
  rw [← e2]
  clear e2
  refine J_aload_n (i := 0) (q := 0) (pc1 := 6) dX1_clear_5 rfl rfl rfl ?_
  refine J_iconst (v := 0) (pc1 := 7) dX1_clear_6 (by decide) rfl ?_
  refine J_putI (T := TX1) (pc1 := 10) (eC12 hn0) rfl rfl inX1 tyX1 tyX1_ok nmX1 4 (by decide) rfl (fun _ _ _ _ => gh12) flX1_25 rfl rfl rfl rfl dX1_clear_7 rfl ?_
  obtain ⟨μ3, e4, h⟩ := gLet_s h
  rw [← e4]
  clear e4
  refine J_aload_n (i := 0) (q := 0) (pc1 := 11) dX1_clear_10 rfl rfl rfl ?_
  refine J_iconst (v := 0) (pc1 := 12) dX1_clear_11 (by decide) rfl ?_
  refine J_putI (T := TX1) (pc1 := 15) (eC12 hn0) rfl rfl inX1 tyX1 tyX1_ok nmX1 5 (by decide) rfl (fun _ _ _ _ => gh12) flX1_28 rfl rfl rfl rfl dX1_clear_12 rfl ?_
  obtain ⟨μ5, e6, h⟩ := gLet_s h
  rw [← e6]
  clear e6
  refine J_aload_n (i := 0) (q := 0) (pc1 := 16) dX1_clear_15 rfl rfl rfl ?_
  refine J_iconst (v := 0) (pc1 := 17) dX1_clear_16 (by decide) rfl ?_
  refine J_putI (T := TX1) (pc1 := 20) (eC12 hn0) rfl rfl inX1 tyX1 tyX1_ok nmX1 6 (by decide) rfl (fun _ _ _ _ => gh12) flX1_31 rfl rfl rfl rfl dX1_clear_17 rfl ?_
  obtain ⟨μ7, e8, h⟩ := gLet_s h
  rw [← e8]
  clear e8
  refine J_aload_n (i := 0) (q := 0) (pc1 := 21) dX1_clear_20 rfl rfl rfl ?_
  refine J_iconst (v := 0) (pc1 := 22) dX1_clear_21 (by decide) rfl ?_
  refine J_putI (T := TX1) (pc1 := 25) (eC12 hn0) rfl rfl inX1 tyX1 tyX1_ok nmX1 7 (by decide) rfl (fun _ _ _ _ => gh12) flX1_34 rfl rfl rfl rfl dX1_clear_22 rfl ?_
  obtain ⟨μ9, e10, h⟩ := gLet_s h
  rw [← e10]
  clear e10
  refine J_aload_n (i := 0) (q := 0) (pc1 := 26) dX1_clear_25 rfl rfl rfl ?_
  refine J_iload_n (i := 1) (q := 1) (pc1 := 27) dX1_clear_26 rfl rfl rfl ?_
  refine J_putI (T := TX1) (pc1 := 30) (eC12 hn0) rfl rfl inX1 tyX1 tyX1_ok nmX1 8 (by decide) rfl (fun _ _ _ _ => gh12) flX1_37 rfl rfl rfl rfl dX1_clear_27 rfl ?_
  obtain ⟨μ11, e12, h⟩ := gLet_s h
  rw [← e12]
  clear e12
  refine J_aload_n (i := 0) (q := 0) (pc1 := 31) dX1_clear_30 rfl rfl rfl ?_
  obtain ⟨μ14, hc13, h⟩ := gBp_s h
  refine J_callV (As := []) (ad := ad) (f := 12) (i := n0) (st := []) (st1 := []) (pc1 := 34) (kX1_findConfiguration l D tc sa ad nc hnc hI n0 hn0 μ11 μ14 hc13) wcX1_findConfiguration wlX1_40 (eC12 hn0) rfl rfl rfl ⟨rfl, rfl, Nat.le_of_ble_eq_true rfl, Nat.le_of_ble_eq_true rfl⟩ ⟨Nat.zero_le _, Nat.zero_le _⟩ (Nat.le_of_ble_eq_true rfl) dX1_clear_31 rfl rfl ?_
  cases h
  exact J_vret hr hlk dX1_clear_34
def mX2_copyFrom (nc : Nat) (t0 : Nat) (t1 : Nat) (μ : gM) : Option gM :=
  gLet (α := gM) (cp3 μ 20 t0 20 t1 0 0 4) fun μ1 =>
  gLet (α := gM) (cp3 μ1 21 t0 21 t1 0 0 4) fun μ3 =>
  gLet (α := gM) (cp3 μ3 22 t0 22 t1 0 0 4) fun μ5 =>
  gLet (α := gM) (w3 μ5 19 t0 3 (μ5 19 t1 3)) fun μ7 =>
  gLet (α := gM) (w3 μ7 19 t0 4 (μ7 19 t1 4)) fun μ9 =>
  gLet (α := gM) (w3 μ9 19 t0 5 (μ9 19 t1 5)) fun μ11 =>
  gLet (α := gM) (w3 μ11 19 t0 6 (μ11 19 t1 6)) fun μ13 =>
  gLet (α := gM) (w3 μ13 19 t0 7 (μ13 19 t1 7)) fun μ15 =>
  gLet (α := gM) (w3 μ15 19 t0 8 (μ15 19 t1 8)) fun μ17 =>
  gLet (α := gM) (w3 μ17 19 t0 9 (μ17 19 t1 9)) fun μ19 =>
  gLet (α := gM) (w3 μ19 19 t0 10 (μ19 19 t1 10)) fun μ21 =>
  gLet (α := gM) (w3 μ21 19 t0 11 (μ21 19 t1 11)) fun μ23 =>
  gChk ((μ23 19 t1 12) = 0 ∨ (μ23 19 t1 12) = 1) <|
  gLet (α := gM) (w3 μ23 19 t0 12 (μ23 19 t1 12)) fun μ26 =>
  gLet (α := gM) (w3 μ26 19 t0 13 (μ26 19 t1 13)) fun μ28 =>
  gLet (α := gM) (w3 μ28 19 t0 14 (μ28 19 t1 14)) fun μ30 =>
  gLet (α := gM) (w3 μ30 19 t0 15 (μ30 19 t1 15)) fun μ32 =>
  gLet (α := gM) (w3 μ32 19 t0 16 (μ32 19 t1 16)) fun μ34 =>
  some μ34
set_option maxHeartbeats 4000000 in
set_option maxRecDepth 100000 in
theorem kX2_copyFrom (l : Launch) (D : va_G) (tc : Nat → ClassId) (sa : Nat → Nat) (ad : Nat → Nat → Nat) (nc : Nat) (hnc : 0 < nc ∧ nc ≤ 2) (hI : gI (gE_C nc) ad) (t0 : Nat) (ht0 : t0 < 42 * nc) (t1 : Nat) (ht1 : t1 < 42 * nc) (μ : gM) (μ' : gM) (h : mX2_copyFrom nc t0 t1 μ = some μ') : gMet l yX2_copyFrom cX2_copyFrom 2 (none) ({ frames := 1, cells := 0, slots := 0, locals := 80 } : Room) D (gE_C nc) gkd_C tc ad (grh_C nc) sa [.ref (ad 19 t0), .ref (ad 19 t1)] μ (none) μ' := by
  refine gMet_of hI ⟨by decide +kernel, Nat.le_of_ble_eq_true rfl⟩ (fun p e s m args below meth c sz hr hlk => ?_)
  unfold mX2_copyFrom at h
  show JC p l e ({ frames := 1, cells := 0, slots := 0, locals := 80 } : Room) s m args below meth c cX2_copyFrom 2 RX2 D tc sa ad nc sz (none) μ' μ 0 [(0, .ref (ad 19 t0)), (1, .ref (ad 19 t1))] []
  refine J_aload_n (i := 1) (q := 1) (pc1 := 1) dX2_copyFrom_0 rfl rfl rfl ?_
  refine J_getR (T := TX2) (f' := 20) (i' := t1) (pc1 := 4) (eC19 ht1) rfl rfl inX2 0 (by decide) rfl rfl flX2_9 rfl dX2_copyFrom_1 rfl ?_
  refine J_iconst (v := 0) (pc1 := 5) dX2_copyFrom_4 (by decide) rfl ?_
  refine J_aload_n (i := 0) (q := 0) (pc1 := 6) dX2_copyFrom_5 rfl rfl rfl ?_
  refine J_getR (T := TX2) (f' := 20) (i' := t0) (pc1 := 9) (eC19 ht0) rfl rfl inX2 0 (by decide) rfl rfl flX2_9 rfl dX2_copyFrom_6 rfl ?_
  refine J_iconst (v := 0) (pc1 := 10) dX2_copyFrom_9 (by decide) rfl ?_
  refine J_iconst (v := 4) (pc1 := 11) dX2_copyFrom_10 (by decide) rfl ?_
  refine J_copy (μ' := cp3 μ 20 t0 20 t1 0 0 4) (pc1 := 14) (eC20 ht1) rfl (eC20 ht0) rfl wlX2_47 acNat acSt iniSys (by decide) (by decide) (by decide) (by decide) (by decide) (cp3_at _ _ _ _ _ _ _ _) (fun _ _ hne => cp3_ne hne) ⟨Nat.le_of_ble_eq_true rfl, Nat.le_of_ble_eq_true rfl⟩ dX2_copyFrom_11 rfl ?_
  obtain ⟨μ1, e2, h⟩ := gLet_s h
  rw [← e2]
  clear e2
  refine J_aload_n (i := 1) (q := 1) (pc1 := 15) dX2_copyFrom_14 rfl rfl rfl ?_
  refine J_getR (T := TX2) (f' := 21) (i' := t1) (pc1 := 18) (eC19 ht1) rfl rfl inX2 1 (by decide) rfl rfl flX2_15 rfl dX2_copyFrom_15 rfl ?_
  refine J_iconst (v := 0) (pc1 := 19) dX2_copyFrom_18 (by decide) rfl ?_
  refine J_aload_n (i := 0) (q := 0) (pc1 := 20) dX2_copyFrom_19 rfl rfl rfl ?_
  refine J_getR (T := TX2) (f' := 21) (i' := t0) (pc1 := 23) (eC19 ht0) rfl rfl inX2 1 (by decide) rfl rfl flX2_15 rfl dX2_copyFrom_20 rfl ?_
  refine J_iconst (v := 0) (pc1 := 24) dX2_copyFrom_23 (by decide) rfl ?_
  refine J_iconst (v := 4) (pc1 := 25) dX2_copyFrom_24 (by decide) rfl ?_
  refine J_copy (μ' := cp3 μ1 21 t0 21 t1 0 0 4) (pc1 := 28) (eC21 ht1) rfl (eC21 ht0) rfl wlX2_47 acNat acSt iniSys (by decide) (by decide) (by decide) (by decide) (by decide) (cp3_at _ _ _ _ _ _ _ _) (fun _ _ hne => cp3_ne hne) ⟨Nat.le_of_ble_eq_true rfl, Nat.le_of_ble_eq_true rfl⟩ dX2_copyFrom_25 rfl ?_
  obtain ⟨μ3, e4, h⟩ := gLet_s h
  rw [← e4]
  clear e4
  refine J_aload_n (i := 1) (q := 1) (pc1 := 29) dX2_copyFrom_28 rfl rfl rfl ?_
  refine J_getR (T := TX2) (f' := 22) (i' := t1) (pc1 := 32) (eC19 ht1) rfl rfl inX2 2 (by decide) rfl rfl flX2_18 rfl dX2_copyFrom_29 rfl ?_
  refine J_iconst (v := 0) (pc1 := 33) dX2_copyFrom_32 (by decide) rfl ?_
  refine J_aload_n (i := 0) (q := 0) (pc1 := 34) dX2_copyFrom_33 rfl rfl rfl ?_
  refine J_getR (T := TX2) (f' := 22) (i' := t0) (pc1 := 37) (eC19 ht0) rfl rfl inX2 2 (by decide) rfl rfl flX2_18 rfl dX2_copyFrom_34 rfl ?_
  refine J_iconst (v := 0) (pc1 := 38) dX2_copyFrom_37 (by decide) rfl ?_
  refine J_iconst (v := 4) (pc1 := 39) dX2_copyFrom_38 (by decide) rfl ?_
  refine J_copy (μ' := cp3 μ3 22 t0 22 t1 0 0 4) (pc1 := 42) (eC22 ht1) rfl (eC22 ht0) rfl wlX2_47 acNat acSt iniSys (by decide) (by decide) (by decide) (by decide) (by decide) (cp3_at _ _ _ _ _ _ _ _) (fun _ _ hne => cp3_ne hne) ⟨Nat.le_of_ble_eq_true rfl, Nat.le_of_ble_eq_true rfl⟩ dX2_copyFrom_39 rfl ?_
  obtain ⟨μ5, e6, h⟩ := gLet_s h
  rw [← e6]
  clear e6
  refine J_aload_n (i := 0) (q := 0) (pc1 := 43) dX2_copyFrom_42 rfl rfl rfl ?_
  refine J_aload_n (i := 1) (q := 1) (pc1 := 44) dX2_copyFrom_43 rfl rfl rfl ?_
  refine J_getI (T := TX2) (pc1 := 47) (eC19 ht1) rfl rfl inX2 3 (by decide) rfl flX2_21 rfl dX2_copyFrom_44 rfl ?_
  refine J_putI (T := TX2) (pc1 := 50) (eC19 ht0) rfl rfl inX2 tyX2 tyX2_ok nmX2 3 (by decide) rfl (fun _ _ _ _ => gh19) flX2_21 rfl rfl rfl rfl dX2_copyFrom_47 rfl ?_
  obtain ⟨μ7, e8, h⟩ := gLet_s h
  rw [← e8]
  clear e8
  refine J_aload_n (i := 0) (q := 0) (pc1 := 51) dX2_copyFrom_50 rfl rfl rfl ?_
  refine J_aload_n (i := 1) (q := 1) (pc1 := 52) dX2_copyFrom_51 rfl rfl rfl ?_
  refine J_getI (T := TX2) (pc1 := 55) (eC19 ht1) rfl rfl inX2 4 (by decide) rfl flX2_53 rfl dX2_copyFrom_52 rfl ?_
  refine J_putI (T := TX2) (pc1 := 58) (eC19 ht0) rfl rfl inX2 tyX2 tyX2_ok nmX2 4 (by decide) rfl (fun _ _ _ _ => gh19) flX2_53 rfl rfl rfl rfl dX2_copyFrom_55 rfl ?_
  obtain ⟨μ9, e10, h⟩ := gLet_s h
  rw [← e10]
  clear e10
  refine J_aload_n (i := 0) (q := 0) (pc1 := 59) dX2_copyFrom_58 rfl rfl rfl ?_
  refine J_aload_n (i := 1) (q := 1) (pc1 := 60) dX2_copyFrom_59 rfl rfl rfl ?_
  refine J_getI (T := TX2) (pc1 := 63) (eC19 ht1) rfl rfl inX2 5 (by decide) rfl flX2_56 rfl dX2_copyFrom_60 rfl ?_
  refine J_putI (T := TX2) (pc1 := 66) (eC19 ht0) rfl rfl inX2 tyX2 tyX2_ok nmX2 5 (by decide) rfl (fun _ _ _ _ => gh19) flX2_56 rfl rfl rfl rfl dX2_copyFrom_63 rfl ?_
  obtain ⟨μ11, e12, h⟩ := gLet_s h
  rw [← e12]
  clear e12
  refine J_aload_n (i := 0) (q := 0) (pc1 := 67) dX2_copyFrom_66 rfl rfl rfl ?_
  refine J_aload_n (i := 1) (q := 1) (pc1 := 68) dX2_copyFrom_67 rfl rfl rfl ?_
  refine J_getI (T := TX2) (pc1 := 71) (eC19 ht1) rfl rfl inX2 6 (by decide) rfl flX2_59 rfl dX2_copyFrom_68 rfl ?_
  refine J_putI (T := TX2) (pc1 := 74) (eC19 ht0) rfl rfl inX2 tyX2 tyX2_ok nmX2 6 (by decide) rfl (fun _ _ _ _ => gh19) flX2_59 rfl rfl rfl rfl dX2_copyFrom_71 rfl ?_
  obtain ⟨μ13, e14, h⟩ := gLet_s h
  rw [← e14]
  clear e14
  refine J_aload_n (i := 0) (q := 0) (pc1 := 75) dX2_copyFrom_74 rfl rfl rfl ?_
  refine J_aload_n (i := 1) (q := 1) (pc1 := 76) dX2_copyFrom_75 rfl rfl rfl ?_
  refine J_getI (T := TX2) (pc1 := 79) (eC19 ht1) rfl rfl inX2 7 (by decide) rfl flX2_62 rfl dX2_copyFrom_76 rfl ?_
  refine J_putI (T := TX2) (pc1 := 82) (eC19 ht0) rfl rfl inX2 tyX2 tyX2_ok nmX2 7 (by decide) rfl (fun _ _ _ _ => gh19) flX2_62 rfl rfl rfl rfl dX2_copyFrom_79 rfl ?_
  obtain ⟨μ15, e16, h⟩ := gLet_s h
  rw [← e16]
  clear e16
  refine J_aload_n (i := 0) (q := 0) (pc1 := 83) dX2_copyFrom_82 rfl rfl rfl ?_
  refine J_aload_n (i := 1) (q := 1) (pc1 := 84) dX2_copyFrom_83 rfl rfl rfl ?_
  refine J_getI (T := TX2) (pc1 := 87) (eC19 ht1) rfl rfl inX2 8 (by decide) rfl flX2_65 rfl dX2_copyFrom_84 rfl ?_
  refine J_putI (T := TX2) (pc1 := 90) (eC19 ht0) rfl rfl inX2 tyX2 tyX2_ok nmX2 8 (by decide) rfl (fun _ _ _ _ => gh19) flX2_65 rfl rfl rfl rfl dX2_copyFrom_87 rfl ?_
  obtain ⟨μ17, e18, h⟩ := gLet_s h
  rw [← e18]
  clear e18
  refine J_aload_n (i := 0) (q := 0) (pc1 := 91) dX2_copyFrom_90 rfl rfl rfl ?_
  refine J_aload_n (i := 1) (q := 1) (pc1 := 92) dX2_copyFrom_91 rfl rfl rfl ?_
  refine J_getI (T := TX2) (pc1 := 95) (eC19 ht1) rfl rfl inX2 9 (by decide) rfl flX2_68 rfl dX2_copyFrom_92 rfl ?_
  refine J_putI (T := TX2) (pc1 := 98) (eC19 ht0) rfl rfl inX2 tyX2 tyX2_ok nmX2 9 (by decide) rfl (fun _ _ _ _ => gh19) flX2_68 rfl rfl rfl rfl dX2_copyFrom_95 rfl ?_
  obtain ⟨μ19, e20, h⟩ := gLet_s h
  rw [← e20]
  clear e20
  refine J_aload_n (i := 0) (q := 0) (pc1 := 99) dX2_copyFrom_98 rfl rfl rfl ?_
  refine J_aload_n (i := 1) (q := 1) (pc1 := 100) dX2_copyFrom_99 rfl rfl rfl ?_
  refine J_getI (T := TX2) (pc1 := 103) (eC19 ht1) rfl rfl inX2 10 (by decide) rfl flX2_25 rfl dX2_copyFrom_100 rfl ?_
  refine J_putI (T := TX2) (pc1 := 106) (eC19 ht0) rfl rfl inX2 tyX2 tyX2_ok nmX2 10 (by decide) rfl (fun _ _ _ _ => gh19) flX2_25 rfl rfl rfl rfl dX2_copyFrom_103 rfl ?_
  obtain ⟨μ21, e22, h⟩ := gLet_s h
  rw [← e22]
  clear e22
  refine J_aload_n (i := 0) (q := 0) (pc1 := 107) dX2_copyFrom_106 rfl rfl rfl ?_
  refine J_aload_n (i := 1) (q := 1) (pc1 := 108) dX2_copyFrom_107 rfl rfl rfl ?_
  refine J_getI (T := TX2) (pc1 := 111) (eC19 ht1) rfl rfl inX2 11 (by decide) rfl flX2_28 rfl dX2_copyFrom_108 rfl ?_
  refine J_putI (T := TX2) (pc1 := 114) (eC19 ht0) rfl rfl inX2 tyX2 tyX2_ok nmX2 11 (by decide) rfl (fun _ _ _ _ => gh19) flX2_28 rfl rfl rfl rfl dX2_copyFrom_111 rfl ?_
  obtain ⟨μ23, e24, h⟩ := gLet_s h
  rw [← e24]
  clear e24
  refine J_aload_n (i := 0) (q := 0) (pc1 := 115) dX2_copyFrom_114 rfl rfl rfl ?_
  refine J_aload_n (i := 1) (q := 1) (pc1 := 116) dX2_copyFrom_115 rfl rfl rfl ?_
  refine J_getI (T := TX2) (pc1 := 119) (eC19 ht1) rfl rfl inX2 12 (by decide) rfl flX2_31 rfl dX2_copyFrom_116 rfl ?_
  obtain ⟨h25, h⟩ := gChk_s h
  refine J_putI (T := TX2) (pc1 := 122) (eC19 ht0) rfl rfl inX2 tyX2 tyX2_ok nmX2 12 (by decide) rfl (fun _ _ _ _ => gh19) flX2_31 rfl rfl (gZn h25) (gZf h25) dX2_copyFrom_119 rfl ?_
  obtain ⟨μ26, e27, h⟩ := gLet_s h
  rw [← e27]
  clear e27
  refine J_aload_n (i := 0) (q := 0) (pc1 := 123) dX2_copyFrom_122 rfl rfl rfl ?_
  refine J_aload_n (i := 1) (q := 1) (pc1 := 124) dX2_copyFrom_123 rfl rfl rfl ?_
  refine J_getI (T := TX2) (pc1 := 127) (eC19 ht1) rfl rfl inX2 13 (by decide) rfl flX2_35 rfl dX2_copyFrom_124 rfl ?_
  refine J_putI (T := TX2) (pc1 := 130) (eC19 ht0) rfl rfl inX2 tyX2 tyX2_ok nmX2 13 (by decide) rfl (fun _ _ _ _ => gh19) flX2_35 rfl rfl rfl rfl dX2_copyFrom_127 rfl ?_
  obtain ⟨μ28, e29, h⟩ := gLet_s h
  rw [← e29]
  clear e29
  refine J_aload_n (i := 0) (q := 0) (pc1 := 131) dX2_copyFrom_130 rfl rfl rfl ?_
  refine J_aload_n (i := 1) (q := 1) (pc1 := 132) dX2_copyFrom_131 rfl rfl rfl ?_
  refine J_getI (T := TX2) (pc1 := 135) (eC19 ht1) rfl rfl inX2 14 (by decide) rfl flX2_38 rfl dX2_copyFrom_132 rfl ?_
  refine J_putI (T := TX2) (pc1 := 138) (eC19 ht0) rfl rfl inX2 tyX2 tyX2_ok nmX2 14 (by decide) rfl (fun _ _ _ _ => gh19) flX2_38 rfl rfl rfl rfl dX2_copyFrom_135 rfl ?_
  obtain ⟨μ30, e31, h⟩ := gLet_s h
  rw [← e31]
  clear e31
  refine J_aload_n (i := 0) (q := 0) (pc1 := 139) dX2_copyFrom_138 rfl rfl rfl ?_
  refine J_aload_n (i := 1) (q := 1) (pc1 := 140) dX2_copyFrom_139 rfl rfl rfl ?_
  refine J_getI (T := TX2) (pc1 := 143) (eC19 ht1) rfl rfl inX2 15 (by decide) rfl flX2_41 rfl dX2_copyFrom_140 rfl ?_
  refine J_putI (T := TX2) (pc1 := 146) (eC19 ht0) rfl rfl inX2 tyX2 tyX2_ok nmX2 15 (by decide) rfl (fun _ _ _ _ => gh19) flX2_41 rfl rfl rfl rfl dX2_copyFrom_143 rfl ?_
  obtain ⟨μ32, e33, h⟩ := gLet_s h
  rw [← e33]
  clear e33
  refine J_aload_n (i := 0) (q := 0) (pc1 := 147) dX2_copyFrom_146 rfl rfl rfl ?_
  refine J_aload_n (i := 1) (q := 1) (pc1 := 148) dX2_copyFrom_147 rfl rfl rfl ?_
  refine J_getI (T := TX2) (pc1 := 151) (eC19 ht1) rfl rfl inX2 16 (by decide) rfl flX2_44 rfl dX2_copyFrom_148 rfl ?_
  refine J_putI (T := TX2) (pc1 := 154) (eC19 ht0) rfl rfl inX2 tyX2 tyX2_ok nmX2 16 (by decide) rfl (fun _ _ _ _ => gh19) flX2_44 rfl rfl rfl rfl dX2_copyFrom_151 rfl ?_
  obtain ⟨μ34, e35, h⟩ := gLet_s h
  rw [← e35]
  clear e35
  cases h
  exact J_vret hr hlk dX2_copyFrom_154
def mX1_copyFrom (nc : Nat) (n0 : Nat) (n1 : Nat) (μ : gM) : Option gM :=
  gLet (α := gM) (cp3 μ 16 n0 16 n1 0 0 24) fun μ1 =>
  gLet (α := gM) (cp3 μ1 17 n0 17 n1 0 0 24) fun μ3 =>
  gLet (α := gM) (cp3 μ3 18 n0 18 n1 0 0 24) fun μ5 =>
  gLet (α := gM) (w3 μ5 12 n0 3 (μ5 12 n1 3)) fun μ7 =>
  gLet (α := gM) (w3 μ7 12 n0 4 (μ7 12 n1 4)) fun μ9 =>
  gLet (α := gM) (w3 μ9 12 n0 5 (μ9 12 n1 5)) fun μ11 =>
  gLet (α := gM) (w3 μ11 12 n0 6 (μ11 12 n1 6)) fun μ13 =>
  gLet (α := gM) (w3 μ13 12 n0 7 (μ13 12 n1 7)) fun μ15 =>
  gLet (α := gM) (w3 μ15 12 n0 8 (μ15 12 n1 8)) fun μ17 =>
  gBp (mX1_findConfiguration nc n0 μ17) fun μ20 =>
  some μ20
set_option maxHeartbeats 4000000 in
set_option maxRecDepth 100000 in
theorem kX1_copyFrom (l : Launch) (D : va_G) (tc : Nat → ClassId) (sa : Nat → Nat) (ad : Nat → Nat → Nat) (nc : Nat) (hnc : 0 < nc ∧ nc ≤ 2) (hI : gI (gE_C nc) ad) (n0 : Nat) (hn0 : n0 < 5 * nc) (n1 : Nat) (hn1 : n1 < 5 * nc) (μ : gM) (μ' : gM) (h : mX1_copyFrom nc n0 n1 μ = some μ') : gMet l yX1_copyFrom cX1_copyFrom 2 (none) ({ frames := 2, cells := 0, slots := 0, locals := 80 } : Room) D (gE_C nc) gkd_C tc ad (grh_C nc) sa [.ref (ad 12 n0), .ref (ad 12 n1)] μ (none) μ' := by
  refine gMet_of hI ⟨by decide +kernel, Nat.le_of_ble_eq_true rfl⟩ (fun p e s m args below meth c sz hr hlk => ?_)
  unfold mX1_copyFrom at h
  show JC p l e ({ frames := 2, cells := 0, slots := 0, locals := 80 } : Room) s m args below meth c cX1_copyFrom 2 RX1 D tc sa ad nc sz (none) μ' μ 0 [(0, .ref (ad 12 n0)), (1, .ref (ad 12 n1))] []
  refine J_aload_n (i := 1) (q := 1) (pc1 := 1) dX1_copyFrom_0 rfl rfl rfl ?_
  refine J_getR (T := TX1) (f' := 16) (i' := n1) (pc1 := 4) (eC12 hn1) rfl rfl inX1 0 (by decide) rfl rfl flX1_9 rfl dX1_copyFrom_1 rfl ?_
  refine J_iconst (v := 0) (pc1 := 5) dX1_copyFrom_4 (by decide) rfl ?_
  refine J_aload_n (i := 0) (q := 0) (pc1 := 6) dX1_copyFrom_5 rfl rfl rfl ?_
  refine J_getR (T := TX1) (f' := 16) (i' := n0) (pc1 := 9) (eC12 hn0) rfl rfl inX1 0 (by decide) rfl rfl flX1_9 rfl dX1_copyFrom_6 rfl ?_
  refine J_iconst (v := 0) (pc1 := 10) dX1_copyFrom_9 (by decide) rfl ?_
  refine J_bipush (v := 24) (pc1 := 12) dX1_copyFrom_10 (by decide) rfl ?_
  refine J_copy (μ' := cp3 μ 16 n0 16 n1 0 0 24) (pc1 := 15) (eC16 hn1) rfl (eC16 hn0) rfl wlX1_43 acNat acSt iniSys (by decide) (by decide) (by decide) (by decide) (by decide) (cp3_at _ _ _ _ _ _ _ _) (fun _ _ hne => cp3_ne hne) ⟨Nat.le_of_ble_eq_true rfl, Nat.le_of_ble_eq_true rfl⟩ dX1_copyFrom_12 rfl ?_
  obtain ⟨μ1, e2, h⟩ := gLet_s h
  rw [← e2]
  clear e2
  refine J_aload_n (i := 1) (q := 1) (pc1 := 16) dX1_copyFrom_15 rfl rfl rfl ?_
  refine J_getR (T := TX1) (f' := 17) (i' := n1) (pc1 := 19) (eC12 hn1) rfl rfl inX1 1 (by decide) rfl rfl flX1_15 rfl dX1_copyFrom_16 rfl ?_
  refine J_iconst (v := 0) (pc1 := 20) dX1_copyFrom_19 (by decide) rfl ?_
  refine J_aload_n (i := 0) (q := 0) (pc1 := 21) dX1_copyFrom_20 rfl rfl rfl ?_
  refine J_getR (T := TX1) (f' := 17) (i' := n0) (pc1 := 24) (eC12 hn0) rfl rfl inX1 1 (by decide) rfl rfl flX1_15 rfl dX1_copyFrom_21 rfl ?_
  refine J_iconst (v := 0) (pc1 := 25) dX1_copyFrom_24 (by decide) rfl ?_
  refine J_bipush (v := 24) (pc1 := 27) dX1_copyFrom_25 (by decide) rfl ?_
  refine J_copy (μ' := cp3 μ1 17 n0 17 n1 0 0 24) (pc1 := 30) (eC17 hn1) rfl (eC17 hn0) rfl wlX1_43 acNat acSt iniSys (by decide) (by decide) (by decide) (by decide) (by decide) (cp3_at _ _ _ _ _ _ _ _) (fun _ _ hne => cp3_ne hne) ⟨Nat.le_of_ble_eq_true rfl, Nat.le_of_ble_eq_true rfl⟩ dX1_copyFrom_27 rfl ?_
  obtain ⟨μ3, e4, h⟩ := gLet_s h
  rw [← e4]
  clear e4
  refine J_aload_n (i := 1) (q := 1) (pc1 := 31) dX1_copyFrom_30 rfl rfl rfl ?_
  refine J_getR (T := TX1) (f' := 18) (i' := n1) (pc1 := 34) (eC12 hn1) rfl rfl inX1 2 (by decide) rfl rfl flX1_18 rfl dX1_copyFrom_31 rfl ?_
  refine J_iconst (v := 0) (pc1 := 35) dX1_copyFrom_34 (by decide) rfl ?_
  refine J_aload_n (i := 0) (q := 0) (pc1 := 36) dX1_copyFrom_35 rfl rfl rfl ?_
  refine J_getR (T := TX1) (f' := 18) (i' := n0) (pc1 := 39) (eC12 hn0) rfl rfl inX1 2 (by decide) rfl rfl flX1_18 rfl dX1_copyFrom_36 rfl ?_
  refine J_iconst (v := 0) (pc1 := 40) dX1_copyFrom_39 (by decide) rfl ?_
  refine J_bipush (v := 24) (pc1 := 42) dX1_copyFrom_40 (by decide) rfl ?_
  refine J_copy (μ' := cp3 μ3 18 n0 18 n1 0 0 24) (pc1 := 45) (eC18 hn1) rfl (eC18 hn0) rfl wlX1_43 acNat acSt iniSys (by decide) (by decide) (by decide) (by decide) (by decide) (cp3_at _ _ _ _ _ _ _ _) (fun _ _ hne => cp3_ne hne) ⟨Nat.le_of_ble_eq_true rfl, Nat.le_of_ble_eq_true rfl⟩ dX1_copyFrom_42 rfl ?_
  obtain ⟨μ5, e6, h⟩ := gLet_s h
  rw [← e6]
  clear e6
  refine J_aload_n (i := 0) (q := 0) (pc1 := 46) dX1_copyFrom_45 rfl rfl rfl ?_
  refine J_aload_n (i := 1) (q := 1) (pc1 := 47) dX1_copyFrom_46 rfl rfl rfl ?_
  refine J_getI (T := TX1) (pc1 := 50) (eC12 hn1) rfl rfl inX1 3 (by decide) rfl flX1_21 rfl dX1_copyFrom_47 rfl ?_
  refine J_putI (T := TX1) (pc1 := 53) (eC12 hn0) rfl rfl inX1 tyX1 tyX1_ok nmX1 3 (by decide) rfl (fun _ _ _ _ => gh12) flX1_21 rfl rfl rfl rfl dX1_copyFrom_50 rfl ?_
  obtain ⟨μ7, e8, h⟩ := gLet_s h
  rw [← e8]
  clear e8
  refine J_aload_n (i := 0) (q := 0) (pc1 := 54) dX1_copyFrom_53 rfl rfl rfl ?_
  refine J_aload_n (i := 1) (q := 1) (pc1 := 55) dX1_copyFrom_54 rfl rfl rfl ?_
  refine J_getI (T := TX1) (pc1 := 58) (eC12 hn1) rfl rfl inX1 4 (by decide) rfl flX1_25 rfl dX1_copyFrom_55 rfl ?_
  refine J_putI (T := TX1) (pc1 := 61) (eC12 hn0) rfl rfl inX1 tyX1 tyX1_ok nmX1 4 (by decide) rfl (fun _ _ _ _ => gh12) flX1_25 rfl rfl rfl rfl dX1_copyFrom_58 rfl ?_
  obtain ⟨μ9, e10, h⟩ := gLet_s h
  rw [← e10]
  clear e10
  refine J_aload_n (i := 0) (q := 0) (pc1 := 62) dX1_copyFrom_61 rfl rfl rfl ?_
  refine J_aload_n (i := 1) (q := 1) (pc1 := 63) dX1_copyFrom_62 rfl rfl rfl ?_
  refine J_getI (T := TX1) (pc1 := 66) (eC12 hn1) rfl rfl inX1 5 (by decide) rfl flX1_28 rfl dX1_copyFrom_63 rfl ?_
  refine J_putI (T := TX1) (pc1 := 69) (eC12 hn0) rfl rfl inX1 tyX1 tyX1_ok nmX1 5 (by decide) rfl (fun _ _ _ _ => gh12) flX1_28 rfl rfl rfl rfl dX1_copyFrom_66 rfl ?_
  obtain ⟨μ11, e12, h⟩ := gLet_s h
  rw [← e12]
  clear e12
  refine J_aload_n (i := 0) (q := 0) (pc1 := 70) dX1_copyFrom_69 rfl rfl rfl ?_
  refine J_aload_n (i := 1) (q := 1) (pc1 := 71) dX1_copyFrom_70 rfl rfl rfl ?_
  refine J_getI (T := TX1) (pc1 := 74) (eC12 hn1) rfl rfl inX1 6 (by decide) rfl flX1_31 rfl dX1_copyFrom_71 rfl ?_
  refine J_putI (T := TX1) (pc1 := 77) (eC12 hn0) rfl rfl inX1 tyX1 tyX1_ok nmX1 6 (by decide) rfl (fun _ _ _ _ => gh12) flX1_31 rfl rfl rfl rfl dX1_copyFrom_74 rfl ?_
  obtain ⟨μ13, e14, h⟩ := gLet_s h
  rw [← e14]
  clear e14
  refine J_aload_n (i := 0) (q := 0) (pc1 := 78) dX1_copyFrom_77 rfl rfl rfl ?_
  refine J_aload_n (i := 1) (q := 1) (pc1 := 79) dX1_copyFrom_78 rfl rfl rfl ?_
  refine J_getI (T := TX1) (pc1 := 82) (eC12 hn1) rfl rfl inX1 7 (by decide) rfl flX1_34 rfl dX1_copyFrom_79 rfl ?_
  refine J_putI (T := TX1) (pc1 := 85) (eC12 hn0) rfl rfl inX1 tyX1 tyX1_ok nmX1 7 (by decide) rfl (fun _ _ _ _ => gh12) flX1_34 rfl rfl rfl rfl dX1_copyFrom_82 rfl ?_
  obtain ⟨μ15, e16, h⟩ := gLet_s h
  rw [← e16]
  clear e16
  refine J_aload_n (i := 0) (q := 0) (pc1 := 86) dX1_copyFrom_85 rfl rfl rfl ?_
  refine J_aload_n (i := 1) (q := 1) (pc1 := 87) dX1_copyFrom_86 rfl rfl rfl ?_
  refine J_getI (T := TX1) (pc1 := 90) (eC12 hn1) rfl rfl inX1 8 (by decide) rfl flX1_37 rfl dX1_copyFrom_87 rfl ?_
  refine J_putI (T := TX1) (pc1 := 93) (eC12 hn0) rfl rfl inX1 tyX1 tyX1_ok nmX1 8 (by decide) rfl (fun _ _ _ _ => gh12) flX1_37 rfl rfl rfl rfl dX1_copyFrom_90 rfl ?_
  obtain ⟨μ17, e18, h⟩ := gLet_s h
  rw [← e18]
  clear e18
  refine J_aload_n (i := 0) (q := 0) (pc1 := 94) dX1_copyFrom_93 rfl rfl rfl ?_
  obtain ⟨μ20, hc19, h⟩ := gBp_s h
  refine J_callV (As := []) (ad := ad) (f := 12) (i := n0) (st := []) (st1 := []) (pc1 := 97) (kX1_findConfiguration l D tc sa ad nc hnc hI n0 hn0 μ17 μ20 hc19) wcX1_findConfiguration wlX1_40 (eC12 hn0) rfl rfl rfl ⟨rfl, rfl, Nat.le_of_ble_eq_true rfl, Nat.le_of_ble_eq_true rfl⟩ ⟨Nat.zero_le _, Nat.zero_le _⟩ (Nat.le_of_ble_eq_true rfl) dX1_copyFrom_94 rfl rfl ?_
  cases h
  exact J_vret hr hlk dX1_copyFrom_97
def mX1_lastTerm (nc : Nat) (n0 : Nat) (μ : gM) : Option Int32 :=
  if (μ 12 n0 3) ≤ 0 then
    some (μ 12 n0 5)
  else
    if 24 < (μ 12 n0 3) then
      some (μ 12 n0 5)
    else
      gChk (inb ((μ 12 n0 3) - 1) 24) <|
      some (μ 16 n0 (((μ 12 n0 3) - 1).toNatClampNeg))
set_option maxHeartbeats 4000000 in
set_option maxRecDepth 100000 in
theorem kX1_lastTerm (l : Launch) (D : va_G) (tc : Nat → ClassId) (sa : Nat → Nat) (ad : Nat → Nat → Nat) (nc : Nat) (hnc : 0 < nc ∧ nc ≤ 2) (hI : gI (gE_C nc) ad) (n0 : Nat) (hn0 : n0 < 5 * nc) (μ : gM) (r : Int32) (h : mX1_lastTerm nc n0 μ = some r) : gMet l yX1_lastTerm cX1_lastTerm 1 (some .int) ({ frames := 0, cells := 0, slots := 0, locals := 0 } : Room) D (gE_C nc) gkd_C tc ad (grh_C nc) sa [.ref (ad 12 n0)] μ (some (.int r)) μ := by
  refine gMet_of hI ⟨by decide +kernel, Nat.le_of_ble_eq_true rfl⟩ (fun p e s m args below meth c sz hr hlk => ?_)
  unfold mX1_lastTerm at h
  show JC p l e ({ frames := 0, cells := 0, slots := 0, locals := 0 } : Room) s m args below meth c cX1_lastTerm 1 RX1 D tc sa ad nc sz (some (.int r)) μ μ 0 [(0, .ref (ad 12 n0))] []
  refine J_aload_n (i := 0) (q := 0) (pc1 := 1) dX1_lastTerm_0 rfl rfl rfl ?_
  refine J_getI (T := TX1) (pc1 := 4) (eC12 hn0) rfl rfl inX1 3 (by decide) rfl flX1_21 rfl dX1_lastTerm_1 rfl ?_
  refine J_if_le (tgt := 30) (pc1 := 7) dX1_lastTerm_4 (by decide) (fun q1 => ?_) rfl (fun q1 => ?_)
  · rw [if_pos q1] at h
    refine J_aload_n (i := 0) (q := 0) (pc1 := 31) dX1_lastTerm_30 rfl rfl rfl ?_
    refine J_getI (T := TX1) (pc1 := 34) (eC12 hn0) rfl rfl inX1 5 (by decide) rfl flX1_28 rfl dX1_lastTerm_31 rfl ?_
    cases h
    exact J_iret hr hlk dX1_lastTerm_34
  · rw [if_neg q1] at h
    refine J_aload_n (i := 0) (q := 0) (pc1 := 8) dX1_lastTerm_7 rfl rfl rfl ?_
    refine J_getI (T := TX1) (pc1 := 11) (eC12 hn0) rfl rfl inX1 3 (by decide) rfl flX1_21 rfl dX1_lastTerm_8 rfl ?_
    refine J_bipush (v := 24) (pc1 := 13) dX1_lastTerm_11 (by decide) rfl ?_
    refine J_icmp_gt (tgt := 30) (pc1 := 16) dX1_lastTerm_13 (by decide) (fun q2 => ?_) rfl (fun q2 => ?_)
    · rw [if_pos q2] at h
      refine J_aload_n (i := 0) (q := 0) (pc1 := 31) dX1_lastTerm_30 rfl rfl rfl ?_
      refine J_getI (T := TX1) (pc1 := 34) (eC12 hn0) rfl rfl inX1 5 (by decide) rfl flX1_28 rfl dX1_lastTerm_31 rfl ?_
      cases h
      exact J_iret hr hlk dX1_lastTerm_34
    · rw [if_neg q2] at h
      refine J_aload_n (i := 0) (q := 0) (pc1 := 17) dX1_lastTerm_16 rfl rfl rfl ?_
      refine J_getR (T := TX1) (f' := 16) (i' := n0) (pc1 := 20) (eC12 hn0) rfl rfl inX1 0 (by decide) rfl rfl flX1_9 rfl dX1_lastTerm_17 rfl ?_
      refine J_aload_n (i := 0) (q := 0) (pc1 := 21) dX1_lastTerm_20 rfl rfl rfl ?_
      refine J_getI (T := TX1) (pc1 := 24) (eC12 hn0) rfl rfl inX1 3 (by decide) rfl flX1_21 rfl dX1_lastTerm_21 rfl ?_
      refine J_iconst (v := 1) (pc1 := 25) dX1_lastTerm_24 (by decide) rfl ?_
      refine J_isub (pc1 := 26) dX1_lastTerm_25 rfl ?_
      obtain ⟨h3, h⟩ := gChk_s h
      refine J_iald (ix := (((μ 12 n0 3) - 1).toNatClampNeg)) (pc1 := 27) rfl (eC16 hn0) rfl h3 dX1_lastTerm_26 rfl ?_
      refine J_goto (tgt := 34) dX1_lastTerm_27 (by decide) ?_
      cases h
      exact J_iret hr hlk dX1_lastTerm_34
def mX1_lastIndex (nc : Nat) (n0 : Nat) (μ : gM) : Option Int32 :=
  some ((μ 12 n0 4) + (μ 12 n0 3))
set_option maxHeartbeats 4000000 in
set_option maxRecDepth 100000 in
theorem kX1_lastIndex (l : Launch) (D : va_G) (tc : Nat → ClassId) (sa : Nat → Nat) (ad : Nat → Nat → Nat) (nc : Nat) (hnc : 0 < nc ∧ nc ≤ 2) (hI : gI (gE_C nc) ad) (n0 : Nat) (hn0 : n0 < 5 * nc) (μ : gM) (r : Int32) (h : mX1_lastIndex nc n0 μ = some r) : gMet l yX1_lastIndex cX1_lastIndex 1 (some .int) ({ frames := 0, cells := 0, slots := 0, locals := 0 } : Room) D (gE_C nc) gkd_C tc ad (grh_C nc) sa [.ref (ad 12 n0)] μ (some (.int r)) μ := by
  refine gMet_of hI ⟨by decide +kernel, Nat.le_of_ble_eq_true rfl⟩ (fun p e s m args below meth c sz hr hlk => ?_)
  unfold mX1_lastIndex at h
  show JC p l e ({ frames := 0, cells := 0, slots := 0, locals := 0 } : Room) s m args below meth c cX1_lastIndex 1 RX1 D tc sa ad nc sz (some (.int r)) μ μ 0 [(0, .ref (ad 12 n0))] []
  refine J_aload_n (i := 0) (q := 0) (pc1 := 1) dX1_lastIndex_0 rfl rfl rfl ?_
  refine J_getI (T := TX1) (pc1 := 4) (eC12 hn0) rfl rfl inX1 4 (by decide) rfl flX1_25 rfl dX1_lastIndex_1 rfl ?_
  refine J_aload_n (i := 0) (q := 0) (pc1 := 5) dX1_lastIndex_4 rfl rfl rfl ?_
  refine J_getI (T := TX1) (pc1 := 8) (eC12 hn0) rfl rfl inX1 3 (by decide) rfl flX1_21 rfl dX1_lastIndex_5 rfl ?_
  refine J_iadd (pc1 := 9) dX1_lastIndex_8 rfl ?_
  cases h
  exact J_iret hr hlk dX1_lastIndex_9
def mX1_isNotAheadOf (nc : Nat) (n0 : Nat) (a1 : Int32) (a2 : Int32) (μ : gM) : Option Int32 :=
  gBp (mX1_lastTerm nc n0 μ) fun r2 =>
  if r2 < a2 then
    some 1
  else
    if a2 = r2 then
      gBp (mX1_lastIndex nc n0 μ) fun r6 =>
      if a1 < r6 then
        some 0
      else
        some 1
    else
      some 0
set_option maxHeartbeats 4000000 in
set_option maxRecDepth 100000 in
theorem kX1_isNotAheadOf (l : Launch) (D : va_G) (tc : Nat → ClassId) (sa : Nat → Nat) (ad : Nat → Nat → Nat) (nc : Nat) (hnc : 0 < nc ∧ nc ≤ 2) (hI : gI (gE_C nc) ad) (n0 : Nat) (hn0 : n0 < 5 * nc) (a1 : Int32) (a2 : Int32) (μ : gM) (r : Int32) (h : mX1_isNotAheadOf nc n0 a1 a2 μ = some r) : gMet l yX1_isNotAheadOf cX1_isNotAheadOf 4 (some .boolean) ({ frames := 1, cells := 0, slots := 0, locals := 20 } : Room) D (gE_C nc) gkd_C tc ad (grh_C nc) sa [.ref (ad 12 n0), .int a1, .int a2] μ (some (.int r)) μ := by
  refine gMet_of hI ⟨by decide +kernel, Nat.le_of_ble_eq_true rfl⟩ (fun p e s m args below meth c sz hr hlk => ?_)
  unfold mX1_isNotAheadOf at h
  show JC p l e ({ frames := 1, cells := 0, slots := 0, locals := 20 } : Room) s m args below meth c cX1_isNotAheadOf 4 RX1 D tc sa ad nc sz (some (.int r)) μ μ 0 [(0, .ref (ad 12 n0)), (1, .int a1), (2, .int a2)] []
  refine J_aload_n (i := 0) (q := 0) (pc1 := 1) dX1_isNotAheadOf_0 rfl rfl rfl ?_
  obtain ⟨r2, hc1, h⟩ := gBp_s h
  refine J_callV (As := []) (ad := ad) (f := 12) (i := n0) (st := []) (st1 := [.int r2]) (pc1 := 4) (kX1_lastTerm l D tc sa ad nc hnc hI n0 hn0 μ r2 hc1) wcX1_lastTerm wlX1_53 (eC12 hn0) rfl rfl rfl ⟨rfl, rfl, Nat.le_of_ble_eq_true rfl, Nat.le_of_ble_eq_true rfl⟩ ⟨Nat.zero_le _, Nat.zero_le _⟩ (Nat.le_of_ble_eq_true rfl) dX1_isNotAheadOf_1 rfl rfl ?_
  refine J_istore_n (i := 3) (lv1 := [(3, .int r2), (0, .ref (ad 12 n0)), (1, .int a1), (2, .int a2)]) (pc1 := 5) dX1_isNotAheadOf_4 rfl (by decide) rfl rfl ?_
  refine J_iload_n (i := 2) (q := 3) (pc1 := 6) dX1_isNotAheadOf_5 rfl rfl rfl ?_
  refine J_iload_n (i := 3) (q := 0) (pc1 := 7) dX1_isNotAheadOf_6 rfl rfl rfl ?_
  refine J_icmp_gt (tgt := 23) (pc1 := 10) dX1_isNotAheadOf_7 (by decide) (fun q3 => ?_) rfl (fun q3 => ?_)
  · rw [if_pos q3] at h
    refine J_iconst (v := 1) (pc1 := 24) dX1_isNotAheadOf_23 (by decide) rfl ?_
    refine J_goto (tgt := 28) dX1_isNotAheadOf_24 (by decide) ?_
    cases h
    exact J_zret (by decide) hr hlk dX1_isNotAheadOf_28
  · rw [if_neg q3] at h
    refine J_iload_n (i := 2) (q := 3) (pc1 := 11) dX1_isNotAheadOf_10 rfl rfl rfl ?_
    refine J_iload_n (i := 3) (q := 0) (pc1 := 12) dX1_isNotAheadOf_11 rfl rfl rfl ?_
    refine J_icmp_ne (tgt := 27) (pc1 := 15) dX1_isNotAheadOf_12 (by decide) (fun q4 => ?_) rfl (fun q4 => ?_)
    · rw [if_neg q4] at h
      refine J_iconst (v := 0) (pc1 := 28) dX1_isNotAheadOf_27 (by decide) rfl ?_
      cases h
      exact J_zret (by decide) hr hlk dX1_isNotAheadOf_28
    · rw [if_pos q4] at h
      refine J_iload_n (i := 1) (q := 2) (pc1 := 16) dX1_isNotAheadOf_15 rfl rfl rfl ?_
      refine J_aload_n (i := 0) (q := 1) (pc1 := 17) dX1_isNotAheadOf_16 rfl rfl rfl ?_
      obtain ⟨r6, hc5, h⟩ := gBp_s h
      refine J_callV (As := []) (ad := ad) (f := 12) (i := n0) (st := [.int a1]) (st1 := [.int r6, .int a1]) (pc1 := 20) (kX1_lastIndex l D tc sa ad nc hnc hI n0 hn0 μ r6 hc5) wcX1_lastIndex wlX1_57 (eC12 hn0) rfl rfl rfl ⟨rfl, rfl, Nat.le_of_ble_eq_true rfl, Nat.le_of_ble_eq_true rfl⟩ ⟨Nat.zero_le _, Nat.zero_le _⟩ (Nat.le_of_ble_eq_true rfl) dX1_isNotAheadOf_17 rfl rfl ?_
      refine J_icmp_lt (tgt := 27) (pc1 := 23) dX1_isNotAheadOf_20 (by decide) (fun q7 => ?_) rfl (fun q7 => ?_)
      · rw [if_pos q7] at h
        refine J_iconst (v := 0) (pc1 := 28) dX1_isNotAheadOf_27 (by decide) rfl ?_
        cases h
        exact J_zret (by decide) hr hlk dX1_isNotAheadOf_28
      · rw [if_neg q7] at h
        refine J_iconst (v := 1) (pc1 := 24) dX1_isNotAheadOf_23 (by decide) rfl ?_
        refine J_goto (tgt := 28) dX1_isNotAheadOf_24 (by decide) ?_
        cases h
        exact J_zret (by decide) hr hlk dX1_isNotAheadOf_28
def mX2_clear (nc : Nat) (t0 : Nat) (μ : gM) : Option gM :=
  gLet (α := gM) (w3 μ 19 t0 3 0) fun μ1 =>
  gLet (α := gM) (w3 μ1 19 t0 10 0) fun μ3 =>
  gLet (α := gM) (w3 μ3 19 t0 11 0) fun μ5 =>
  gLet (α := gM) (w3 μ5 19 t0 12 0) fun μ7 =>
  gLet (α := gM) (w3 μ7 19 t0 13 0) fun μ9 =>
  gLet (α := gM) (w3 μ9 19 t0 14 0) fun μ11 =>
  gLet (α := gM) (w3 μ11 19 t0 15 0) fun μ13 =>
  gLet (α := gM) (w3 μ13 19 t0 16 0) fun μ15 =>
  some μ15
set_option maxHeartbeats 4000000 in
set_option maxRecDepth 100000 in
theorem kX2_clear (l : Launch) (D : va_G) (tc : Nat → ClassId) (sa : Nat → Nat) (ad : Nat → Nat → Nat) (nc : Nat) (hnc : 0 < nc ∧ nc ≤ 2) (hI : gI (gE_C nc) ad) (t0 : Nat) (ht0 : t0 < 42 * nc) (μ : gM) (μ' : gM) (h : mX2_clear nc t0 μ = some μ') : gMet l yX2_clear cX2_clear 1 (none) ({ frames := 0, cells := 0, slots := 0, locals := 0 } : Room) D (gE_C nc) gkd_C tc ad (grh_C nc) sa [.ref (ad 19 t0)] μ (none) μ' := by
  refine gMet_of hI ⟨by decide +kernel, Nat.le_of_ble_eq_true rfl⟩ (fun p e s m args below meth c sz hr hlk => ?_)
  unfold mX2_clear at h
  show JC p l e ({ frames := 0, cells := 0, slots := 0, locals := 0 } : Room) s m args below meth c cX2_clear 1 RX2 D tc sa ad nc sz (none) μ' μ 0 [(0, .ref (ad 19 t0))] []
  refine J_aload_n (i := 0) (q := 0) (pc1 := 1) dX2_clear_0 rfl rfl rfl ?_
  refine J_iconst (v := 0) (pc1 := 2) dX2_clear_1 (by decide) rfl ?_
  refine J_putI (T := TX2) (pc1 := 5) (eC19 ht0) rfl rfl inX2 tyX2 tyX2_ok nmX2 3 (by decide) rfl (fun _ _ _ _ => gh19) flX2_21 rfl rfl rfl rfl dX2_clear_2 rfl ?_
  obtain ⟨μ1, e2, h⟩ := gLet_s h
  rw [← e2]
  clear e2
  refine J_aload_n (i := 0) (q := 0) (pc1 := 6) dX2_clear_5 rfl rfl rfl ?_
  refine J_iconst (v := 0) (pc1 := 7) dX2_clear_6 (by decide) rfl ?_
  refine J_putI (T := TX2) (pc1 := 10) (eC19 ht0) rfl rfl inX2 tyX2 tyX2_ok nmX2 10 (by decide) rfl (fun _ _ _ _ => gh19) flX2_25 rfl rfl rfl rfl dX2_clear_7 rfl ?_
  obtain ⟨μ3, e4, h⟩ := gLet_s h
  rw [← e4]
  clear e4
  refine J_aload_n (i := 0) (q := 0) (pc1 := 11) dX2_clear_10 rfl rfl rfl ?_
  refine J_iconst (v := 0) (pc1 := 12) dX2_clear_11 (by decide) rfl ?_
  refine J_putI (T := TX2) (pc1 := 15) (eC19 ht0) rfl rfl inX2 tyX2 tyX2_ok nmX2 11 (by decide) rfl (fun _ _ _ _ => gh19) flX2_28 rfl rfl rfl rfl dX2_clear_12 rfl ?_
  obtain ⟨μ5, e6, h⟩ := gLet_s h
  rw [← e6]
  clear e6
  refine J_aload_n (i := 0) (q := 0) (pc1 := 16) dX2_clear_15 rfl rfl rfl ?_
  refine J_iconst (v := 0) (pc1 := 17) dX2_clear_16 (by decide) rfl ?_
  refine J_putI (T := TX2) (pc1 := 20) (eC19 ht0) rfl rfl inX2 tyX2 tyX2_ok nmX2 12 (by decide) rfl (fun _ _ _ _ => gh19) flX2_31 rfl rfl (by decide) (by decide) dX2_clear_17 rfl ?_
  obtain ⟨μ7, e8, h⟩ := gLet_s h
  rw [← e8]
  clear e8
  refine J_aload_n (i := 0) (q := 0) (pc1 := 21) dX2_clear_20 rfl rfl rfl ?_
  refine J_iconst (v := 0) (pc1 := 22) dX2_clear_21 (by decide) rfl ?_
  refine J_putI (T := TX2) (pc1 := 25) (eC19 ht0) rfl rfl inX2 tyX2 tyX2_ok nmX2 13 (by decide) rfl (fun _ _ _ _ => gh19) flX2_35 rfl rfl rfl rfl dX2_clear_22 rfl ?_
  obtain ⟨μ9, e10, h⟩ := gLet_s h
  rw [← e10]
  clear e10
  refine J_aload_n (i := 0) (q := 0) (pc1 := 26) dX2_clear_25 rfl rfl rfl ?_
  refine J_iconst (v := 0) (pc1 := 27) dX2_clear_26 (by decide) rfl ?_
  refine J_putI (T := TX2) (pc1 := 30) (eC19 ht0) rfl rfl inX2 tyX2 tyX2_ok nmX2 14 (by decide) rfl (fun _ _ _ _ => gh19) flX2_38 rfl rfl rfl rfl dX2_clear_27 rfl ?_
  obtain ⟨μ11, e12, h⟩ := gLet_s h
  rw [← e12]
  clear e12
  refine J_aload_n (i := 0) (q := 0) (pc1 := 31) dX2_clear_30 rfl rfl rfl ?_
  refine J_iconst (v := 0) (pc1 := 32) dX2_clear_31 (by decide) rfl ?_
  refine J_putI (T := TX2) (pc1 := 35) (eC19 ht0) rfl rfl inX2 tyX2 tyX2_ok nmX2 15 (by decide) rfl (fun _ _ _ _ => gh19) flX2_41 rfl rfl rfl rfl dX2_clear_32 rfl ?_
  obtain ⟨μ13, e14, h⟩ := gLet_s h
  rw [← e14]
  clear e14
  refine J_aload_n (i := 0) (q := 0) (pc1 := 36) dX2_clear_35 rfl rfl rfl ?_
  refine J_iconst (v := 0) (pc1 := 37) dX2_clear_36 (by decide) rfl ?_
  refine J_putI (T := TX2) (pc1 := 40) (eC19 ht0) rfl rfl inX2 tyX2 tyX2_ok nmX2 16 (by decide) rfl (fun _ _ _ _ => gh19) flX2_44 rfl rfl rfl rfl dX2_clear_37 rfl ?_
  obtain ⟨μ15, e16, h⟩ := gLet_s h
  rw [← e16]
  clear e16
  cases h
  exact J_vret hr hlk dX2_clear_40
def mJ6_bitCount_0f7a4 (nc : Nat) (a1 : Int32) (μ : gM) : Option Int32 :=
  gLet (α := Int32) (a1 - ((ushr a1 1) &&& 1431655765)) fun x1 =>
  gLet (α := Int32) ((x1 &&& 858993459) + ((ushr x1 2) &&& 858993459)) fun x5 =>
  gLet (α := Int32) ((x5 + (ushr x5 4)) &&& 252645135) fun x9 =>
  gLet (α := Int32) (x9 + (ushr x9 8)) fun x13 =>
  gLet (α := Int32) (x13 + (ushr x13 16)) fun x17 =>
  some (x17 &&& 63)
set_option maxHeartbeats 4000000 in
set_option maxRecDepth 100000 in
theorem kJ6_bitCount_0f7a4 (l : Launch) (D : va_G) (tc : Nat → ClassId) (sa : Nat → Nat) (ad : Nat → Nat → Nat) (nc : Nat) (hnc : 0 < nc ∧ nc ≤ 2) (hI : gI (gE_C nc) ad) (a1 : Int32) (μ : gM) (r : Int32) (h : mJ6_bitCount_0f7a4 nc a1 μ = some r) : gMet l yJ6_bitCount_0f7a4 cJ6_bitCount_0f7a4 1 (some .int) ({ frames := 0, cells := 0, slots := 0, locals := 0 } : Room) D (gE_C nc) gkd_C tc ad (grh_C nc) sa [.int a1] μ (some (.int r)) μ := by
  refine gMet_of hI ⟨by decide +kernel, Nat.le_of_ble_eq_true rfl⟩ (fun p e s m args below meth c sz hr hlk => ?_)
  unfold mJ6_bitCount_0f7a4 at h
  show JC p l e ({ frames := 0, cells := 0, slots := 0, locals := 0 } : Room) s m args below meth c cJ6_bitCount_0f7a4 1 RJ6 D tc sa ad nc sz (some (.int r)) μ μ 0 [(0, .int a1)] []
  refine J_iload_n (i := 0) (q := 0) (pc1 := 1) dJ6_bitCount_0f7a4_0 rfl rfl rfl ?_
  refine J_iload_n (i := 0) (q := 0) (pc1 := 2) dJ6_bitCount_0f7a4_1 rfl rfl rfl ?_
  refine J_iconst (v := 1) (pc1 := 3) dJ6_bitCount_0f7a4_2 (by decide) rfl ?_
  refine J_iushr (pc1 := 4) dJ6_bitCount_0f7a4_3 rfl ?_
  refine J_ldcw (v := 1431655765) (pc1 := 7) ctJ6_265 dJ6_bitCount_0f7a4_4 rfl ?_
  refine J_iand (pc1 := 8) dJ6_bitCount_0f7a4_7 rfl ?_
  refine J_isub (pc1 := 9) dJ6_bitCount_0f7a4_8 rfl ?_
  obtain ⟨x1, e3, h⟩ := gLet_s h
  refine J_top (fun y2 e4 => ?_)
  have e4x : x1 = y2 := (e4.trans e3.symm).symm
  subst e4x
  refine J_istore_n (i := 0) (lv1 := [(0, .int x1)]) (pc1 := 10) dJ6_bitCount_0f7a4_9 rfl (by decide) rfl rfl ?_
  refine J_iload_n (i := 0) (q := 0) (pc1 := 11) dJ6_bitCount_0f7a4_10 rfl rfl rfl ?_
  refine J_ldcw (v := 858993459) (pc1 := 14) ctJ6_266 dJ6_bitCount_0f7a4_11 rfl ?_
  refine J_iand (pc1 := 15) dJ6_bitCount_0f7a4_14 rfl ?_
  refine J_iload_n (i := 0) (q := 0) (pc1 := 16) dJ6_bitCount_0f7a4_15 rfl rfl rfl ?_
  refine J_iconst (v := 2) (pc1 := 17) dJ6_bitCount_0f7a4_16 (by decide) rfl ?_
  refine J_iushr (pc1 := 18) dJ6_bitCount_0f7a4_17 rfl ?_
  refine J_ldcw (v := 858993459) (pc1 := 21) ctJ6_266 dJ6_bitCount_0f7a4_18 rfl ?_
  refine J_iand (pc1 := 22) dJ6_bitCount_0f7a4_21 rfl ?_
  refine J_iadd (pc1 := 23) dJ6_bitCount_0f7a4_22 rfl ?_
  obtain ⟨x5, e7, h⟩ := gLet_s h
  refine J_top (fun y6 e8 => ?_)
  have e8x : x5 = y6 := (e8.trans e7.symm).symm
  subst e8x
  refine J_istore_n (i := 0) (lv1 := [(0, .int x5)]) (pc1 := 24) dJ6_bitCount_0f7a4_23 rfl (by decide) rfl rfl ?_
  refine J_iload_n (i := 0) (q := 0) (pc1 := 25) dJ6_bitCount_0f7a4_24 rfl rfl rfl ?_
  refine J_iload_n (i := 0) (q := 0) (pc1 := 26) dJ6_bitCount_0f7a4_25 rfl rfl rfl ?_
  refine J_iconst (v := 4) (pc1 := 27) dJ6_bitCount_0f7a4_26 (by decide) rfl ?_
  refine J_iushr (pc1 := 28) dJ6_bitCount_0f7a4_27 rfl ?_
  refine J_iadd (pc1 := 29) dJ6_bitCount_0f7a4_28 rfl ?_
  refine J_ldcw (v := 252645135) (pc1 := 32) ctJ6_267 dJ6_bitCount_0f7a4_29 rfl ?_
  refine J_iand (pc1 := 33) dJ6_bitCount_0f7a4_32 rfl ?_
  obtain ⟨x9, e11, h⟩ := gLet_s h
  refine J_top (fun y10 e12 => ?_)
  have e12x : x9 = y10 := (e12.trans e11.symm).symm
  subst e12x
  refine J_istore_n (i := 0) (lv1 := [(0, .int x9)]) (pc1 := 34) dJ6_bitCount_0f7a4_33 rfl (by decide) rfl rfl ?_
  refine J_iload_n (i := 0) (q := 0) (pc1 := 35) dJ6_bitCount_0f7a4_34 rfl rfl rfl ?_
  refine J_iload_n (i := 0) (q := 0) (pc1 := 36) dJ6_bitCount_0f7a4_35 rfl rfl rfl ?_
  refine J_bipush (v := 8) (pc1 := 38) dJ6_bitCount_0f7a4_36 (by decide) rfl ?_
  refine J_iushr (pc1 := 39) dJ6_bitCount_0f7a4_38 rfl ?_
  refine J_iadd (pc1 := 40) dJ6_bitCount_0f7a4_39 rfl ?_
  obtain ⟨x13, e15, h⟩ := gLet_s h
  refine J_top (fun y14 e16 => ?_)
  have e16x : x13 = y14 := (e16.trans e15.symm).symm
  subst e16x
  refine J_istore_n (i := 0) (lv1 := [(0, .int x13)]) (pc1 := 41) dJ6_bitCount_0f7a4_40 rfl (by decide) rfl rfl ?_
  refine J_iload_n (i := 0) (q := 0) (pc1 := 42) dJ6_bitCount_0f7a4_41 rfl rfl rfl ?_
  refine J_iload_n (i := 0) (q := 0) (pc1 := 43) dJ6_bitCount_0f7a4_42 rfl rfl rfl ?_
  refine J_bipush (v := 16) (pc1 := 45) dJ6_bitCount_0f7a4_43 (by decide) rfl ?_
  refine J_iushr (pc1 := 46) dJ6_bitCount_0f7a4_45 rfl ?_
  refine J_iadd (pc1 := 47) dJ6_bitCount_0f7a4_46 rfl ?_
  obtain ⟨x17, e19, h⟩ := gLet_s h
  refine J_top (fun y18 e20 => ?_)
  have e20x : x17 = y18 := (e20.trans e19.symm).symm
  subst e20x
  refine J_istore_n (i := 0) (lv1 := [(0, .int x17)]) (pc1 := 48) dJ6_bitCount_0f7a4_47 rfl (by decide) rfl rfl ?_
  refine J_iload_n (i := 0) (q := 0) (pc1 := 49) dJ6_bitCount_0f7a4_48 rfl rfl rfl ?_
  refine J_bipush (v := 63) (pc1 := 51) dJ6_bitCount_0f7a4_49 (by decide) rfl ?_
  refine J_iand (pc1 := 52) dJ6_bitCount_0f7a4_51 rfl ?_
  cases h
  exact J_iret hr hlk dJ6_bitCount_0f7a4_52
def mX1_isQuorum (nc : Nat) (n0 : Nat) (a1 : Int32) (μ : gM) : Option Int32 :=
  gBp (mJ6_bitCount_0f7a4 nc (a1 &&& (μ 12 n0 11)) μ) fun r2 =>
  gBp (mJ6_bitCount_0f7a4 nc (μ 12 n0 11) μ) fun r4 =>
  if r4 < (2 * r2) then
    if (μ 12 n0 10) = 0 then
      some 1
    else
      gBp (mJ6_bitCount_0f7a4 nc (a1 &&& (μ 12 n0 10)) μ) fun r8 =>
      gBp (mJ6_bitCount_0f7a4 nc (μ 12 n0 10) μ) fun r10 =>
      if (2 * r8) ≤ r10 then
        some 0
      else
        some 1
  else
    some 0
set_option maxHeartbeats 4000000 in
set_option maxRecDepth 100000 in
theorem kX1_isQuorum (l : Launch) (D : va_G) (tc : Nat → ClassId) (sa : Nat → Nat) (ad : Nat → Nat → Nat) (nc : Nat) (hnc : 0 < nc ∧ nc ≤ 2) (hI : gI (gE_C nc) ad) (n0 : Nat) (hn0 : n0 < 5 * nc) (a1 : Int32) (μ : gM) (r : Int32) (h : mX1_isQuorum nc n0 a1 μ = some r) : gMet l yX1_isQuorum cX1_isQuorum 2 (some .boolean) ({ frames := 1, cells := 0, slots := 0, locals := 20 } : Room) D (gE_C nc) gkd_C tc ad (grh_C nc) sa [.ref (ad 12 n0), .int a1] μ (some (.int r)) μ := by
  refine gMet_of hI ⟨by decide +kernel, Nat.le_of_ble_eq_true rfl⟩ (fun p e s m args below meth c sz hr hlk => ?_)
  unfold mX1_isQuorum at h
  show JC p l e ({ frames := 1, cells := 0, slots := 0, locals := 20 } : Room) s m args below meth c cX1_isQuorum 2 RX1 D tc sa ad nc sz (some (.int r)) μ μ 0 [(0, .ref (ad 12 n0)), (1, .int a1)] []
  refine J_iconst (v := 2) (pc1 := 1) dX1_isQuorum_0 (by decide) rfl ?_
  refine J_iload_n (i := 1) (q := 1) (pc1 := 2) dX1_isQuorum_1 rfl rfl rfl ?_
  refine J_aload_n (i := 0) (q := 0) (pc1 := 3) dX1_isQuorum_2 rfl rfl rfl ?_
  refine J_getI (T := TX1) (pc1 := 6) (eC12 hn0) rfl rfl inX1 11 (by decide) rfl flX1_102 rfl dX1_isQuorum_3 rfl ?_
  refine J_iand (pc1 := 7) dX1_isQuorum_6 rfl ?_
  obtain ⟨r2, hc1, h⟩ := gBp_s h
  refine J_callS (As := [.int (a1 &&& (μ 12 n0 11))]) (st := [.int 2]) (st1 := [.int r2, .int 2]) (pc1 := 10) (kJ6_bitCount_0f7a4 l D tc sa ad nc hnc hI (a1 &&& (μ 12 n0 11)) μ r2 hc1) wcJ6_bitCount_0f7a4 wlX1_103 rfl ⟨rfl, rfl, Nat.le_of_ble_eq_true rfl, Nat.le_of_ble_eq_true rfl⟩ ⟨Nat.zero_le _, Nat.zero_le _⟩ (Nat.le_of_ble_eq_true rfl) dX1_isQuorum_7 rfl rfl ?_
  refine J_imul (pc1 := 11) dX1_isQuorum_10 rfl ?_
  refine J_aload_n (i := 0) (q := 0) (pc1 := 12) dX1_isQuorum_11 rfl rfl rfl ?_
  refine J_getI (T := TX1) (pc1 := 15) (eC12 hn0) rfl rfl inX1 11 (by decide) rfl flX1_102 rfl dX1_isQuorum_12 rfl ?_
  obtain ⟨r4, hc3, h⟩ := gBp_s h
  refine J_callS (As := [.int (μ 12 n0 11)]) (st := [.int (2 * r2)]) (st1 := [.int r4, .int (2 * r2)]) (pc1 := 18) (kJ6_bitCount_0f7a4 l D tc sa ad nc hnc hI (μ 12 n0 11) μ r4 hc3) wcJ6_bitCount_0f7a4 wlX1_103 rfl ⟨rfl, rfl, Nat.le_of_ble_eq_true rfl, Nat.le_of_ble_eq_true rfl⟩ ⟨Nat.zero_le _, Nat.zero_le _⟩ (Nat.le_of_ble_eq_true rfl) dX1_isQuorum_15 rfl rfl ?_
  refine J_icmp_gt (tgt := 23) (pc1 := 21) dX1_isQuorum_18 (by decide) (fun q5 => ?_) rfl (fun q5 => ?_)
  · rw [if_pos q5] at h
    refine J_aload_n (i := 0) (q := 0) (pc1 := 24) dX1_isQuorum_23 rfl rfl rfl ?_
    refine J_getI (T := TX1) (pc1 := 27) (eC12 hn0) rfl rfl inX1 10 (by decide) rfl flX1_101 rfl dX1_isQuorum_24 rfl ?_
    refine J_if_eq (tgt := 51) (pc1 := 30) dX1_isQuorum_27 (by decide) (fun q6 => ?_) rfl (fun q6 => ?_)
    · rw [if_pos q6] at h
      refine J_iconst (v := 1) (pc1 := 52) dX1_isQuorum_51 (by decide) rfl ?_
      refine J_goto (tgt := 56) dX1_isQuorum_52 (by decide) ?_
      cases h
      exact J_zret (by decide) hr hlk dX1_isQuorum_56
    · rw [if_neg q6] at h
      refine J_iconst (v := 2) (pc1 := 31) dX1_isQuorum_30 (by decide) rfl ?_
      refine J_iload_n (i := 1) (q := 1) (pc1 := 32) dX1_isQuorum_31 rfl rfl rfl ?_
      refine J_aload_n (i := 0) (q := 0) (pc1 := 33) dX1_isQuorum_32 rfl rfl rfl ?_
      refine J_getI (T := TX1) (pc1 := 36) (eC12 hn0) rfl rfl inX1 10 (by decide) rfl flX1_101 rfl dX1_isQuorum_33 rfl ?_
      refine J_iand (pc1 := 37) dX1_isQuorum_36 rfl ?_
      obtain ⟨r8, hc7, h⟩ := gBp_s h
      refine J_callS (As := [.int (a1 &&& (μ 12 n0 10))]) (st := [.int 2]) (st1 := [.int r8, .int 2]) (pc1 := 40) (kJ6_bitCount_0f7a4 l D tc sa ad nc hnc hI (a1 &&& (μ 12 n0 10)) μ r8 hc7) wcJ6_bitCount_0f7a4 wlX1_103 rfl ⟨rfl, rfl, Nat.le_of_ble_eq_true rfl, Nat.le_of_ble_eq_true rfl⟩ ⟨Nat.zero_le _, Nat.zero_le _⟩ (Nat.le_of_ble_eq_true rfl) dX1_isQuorum_37 rfl rfl ?_
      refine J_imul (pc1 := 41) dX1_isQuorum_40 rfl ?_
      refine J_aload_n (i := 0) (q := 0) (pc1 := 42) dX1_isQuorum_41 rfl rfl rfl ?_
      refine J_getI (T := TX1) (pc1 := 45) (eC12 hn0) rfl rfl inX1 10 (by decide) rfl flX1_101 rfl dX1_isQuorum_42 rfl ?_
      obtain ⟨r10, hc9, h⟩ := gBp_s h
      refine J_callS (As := [.int (μ 12 n0 10)]) (st := [.int (2 * r8)]) (st1 := [.int r10, .int (2 * r8)]) (pc1 := 48) (kJ6_bitCount_0f7a4 l D tc sa ad nc hnc hI (μ 12 n0 10) μ r10 hc9) wcJ6_bitCount_0f7a4 wlX1_103 rfl ⟨rfl, rfl, Nat.le_of_ble_eq_true rfl, Nat.le_of_ble_eq_true rfl⟩ ⟨Nat.zero_le _, Nat.zero_le _⟩ (Nat.le_of_ble_eq_true rfl) dX1_isQuorum_45 rfl rfl ?_
      refine J_icmp_le (tgt := 55) (pc1 := 51) dX1_isQuorum_48 (by decide) (fun q11 => ?_) rfl (fun q11 => ?_)
      · rw [if_pos q11] at h
        refine J_iconst (v := 0) (pc1 := 56) dX1_isQuorum_55 (by decide) rfl ?_
        cases h
        exact J_zret (by decide) hr hlk dX1_isQuorum_56
      · rw [if_neg q11] at h
        refine J_iconst (v := 1) (pc1 := 52) dX1_isQuorum_51 (by decide) rfl ?_
        refine J_goto (tgt := 56) dX1_isQuorum_52 (by decide) ?_
        cases h
        exact J_zret (by decide) hr hlk dX1_isQuorum_56
  · rw [if_neg q5] at h
    refine J_iconst (v := 0) (pc1 := 22) dX1_isQuorum_21 (by decide) rfl ?_
    cases h
    exact J_zret (by decide) hr hlk dX1_isQuorum_22
def mX1_copySnapshot (nc : Nat) (n0 : Nat) (t1 : Nat) (μ : gM) : Option gM :=
  gLet (α := gM) (w3 μ 19 t1 10 (μ 12 n0 4)) fun μ1 =>
  gLet (α := gM) (w3 μ1 19 t1 11 (μ1 12 n0 5)) fun μ3 =>
  gLet (α := gM) (w3 μ3 19 t1 14 (μ3 12 n0 6)) fun μ5 =>
  gLet (α := gM) (w3 μ5 19 t1 15 (μ5 12 n0 7)) fun μ7 =>
  gLet (α := gM) (w3 μ7 19 t1 16 (μ7 12 n0 8)) fun μ9 =>
  some μ9
set_option maxHeartbeats 4000000 in
set_option maxRecDepth 100000 in
theorem kX1_copySnapshot (l : Launch) (D : va_G) (tc : Nat → ClassId) (sa : Nat → Nat) (ad : Nat → Nat → Nat) (nc : Nat) (hnc : 0 < nc ∧ nc ≤ 2) (hI : gI (gE_C nc) ad) (n0 : Nat) (hn0 : n0 < 5 * nc) (t1 : Nat) (ht1 : t1 < 42 * nc) (μ : gM) (μ' : gM) (h : mX1_copySnapshot nc n0 t1 μ = some μ') : gMet l yX1_copySnapshot cX1_copySnapshot 2 (none) ({ frames := 0, cells := 0, slots := 0, locals := 0 } : Room) D (gE_C nc) gkd_C tc ad (grh_C nc) sa [.ref (ad 12 n0), .ref (ad 19 t1)] μ (none) μ' := by
  refine gMet_of hI ⟨by decide +kernel, Nat.le_of_ble_eq_true rfl⟩ (fun p e s m args below meth c sz hr hlk => ?_)
  unfold mX1_copySnapshot at h
  show JC p l e ({ frames := 0, cells := 0, slots := 0, locals := 0 } : Room) s m args below meth c cX1_copySnapshot 2 RX1 D tc sa ad nc sz (none) μ' μ 0 [(0, .ref (ad 12 n0)), (1, .ref (ad 19 t1))] []
  refine J_aload_n (i := 1) (q := 1) (pc1 := 1) dX1_copySnapshot_0 rfl rfl rfl ?_
  refine J_aload_n (i := 0) (q := 0) (pc1 := 2) dX1_copySnapshot_1 rfl rfl rfl ?_
  refine J_getI (T := TX1) (pc1 := 5) (eC12 hn0) rfl rfl inX1 4 (by decide) rfl flX1_25 rfl dX1_copySnapshot_2 rfl ?_
  refine J_putI (T := TX2) (pc1 := 8) (eC19 ht1) rfl rfl inX2 tyX2 tyX2_ok nmX2 10 (by decide) rfl (fun _ _ _ _ => gh19) flX1_75 rfl rfl rfl rfl dX1_copySnapshot_5 rfl ?_
  obtain ⟨μ1, e2, h⟩ := gLet_s h
  rw [← e2]
  clear e2
  refine J_aload_n (i := 1) (q := 1) (pc1 := 9) dX1_copySnapshot_8 rfl rfl rfl ?_
  refine J_aload_n (i := 0) (q := 0) (pc1 := 10) dX1_copySnapshot_9 rfl rfl rfl ?_
  refine J_getI (T := TX1) (pc1 := 13) (eC12 hn0) rfl rfl inX1 5 (by decide) rfl flX1_28 rfl dX1_copySnapshot_10 rfl ?_
  refine J_putI (T := TX2) (pc1 := 16) (eC19 ht1) rfl rfl inX2 tyX2 tyX2_ok nmX2 11 (by decide) rfl (fun _ _ _ _ => gh19) flX1_83 rfl rfl rfl rfl dX1_copySnapshot_13 rfl ?_
  obtain ⟨μ3, e4, h⟩ := gLet_s h
  rw [← e4]
  clear e4
  refine J_aload_n (i := 1) (q := 1) (pc1 := 17) dX1_copySnapshot_16 rfl rfl rfl ?_
  refine J_aload_n (i := 0) (q := 0) (pc1 := 18) dX1_copySnapshot_17 rfl rfl rfl ?_
  refine J_getI (T := TX1) (pc1 := 21) (eC12 hn0) rfl rfl inX1 6 (by decide) rfl flX1_31 rfl dX1_copySnapshot_18 rfl ?_
  refine J_putI (T := TX2) (pc1 := 24) (eC19 ht1) rfl rfl inX2 tyX2 tyX2_ok nmX2 14 (by decide) rfl (fun _ _ _ _ => gh19) flX1_86 rfl rfl rfl rfl dX1_copySnapshot_21 rfl ?_
  obtain ⟨μ5, e6, h⟩ := gLet_s h
  rw [← e6]
  clear e6
  refine J_aload_n (i := 1) (q := 1) (pc1 := 25) dX1_copySnapshot_24 rfl rfl rfl ?_
  refine J_aload_n (i := 0) (q := 0) (pc1 := 26) dX1_copySnapshot_25 rfl rfl rfl ?_
  refine J_getI (T := TX1) (pc1 := 29) (eC12 hn0) rfl rfl inX1 7 (by decide) rfl flX1_34 rfl dX1_copySnapshot_26 rfl ?_
  refine J_putI (T := TX2) (pc1 := 32) (eC19 ht1) rfl rfl inX2 tyX2 tyX2_ok nmX2 15 (by decide) rfl (fun _ _ _ _ => gh19) flX1_89 rfl rfl rfl rfl dX1_copySnapshot_29 rfl ?_
  obtain ⟨μ7, e8, h⟩ := gLet_s h
  rw [← e8]
  clear e8
  refine J_aload_n (i := 1) (q := 1) (pc1 := 33) dX1_copySnapshot_32 rfl rfl rfl ?_
  refine J_aload_n (i := 0) (q := 0) (pc1 := 34) dX1_copySnapshot_33 rfl rfl rfl ?_
  refine J_getI (T := TX1) (pc1 := 37) (eC12 hn0) rfl rfl inX1 8 (by decide) rfl flX1_37 rfl dX1_copySnapshot_34 rfl ?_
  refine J_putI (T := TX2) (pc1 := 40) (eC19 ht1) rfl rfl inX2 tyX2 tyX2_ok nmX2 16 (by decide) rfl (fun _ _ _ _ => gh19) flX1_92 rfl rfl rfl rfl dX1_copySnapshot_37 rfl ?_
  obtain ⟨μ9, e10, h⟩ := gLet_s h
  rw [← e10]
  clear e10
  cases h
  exact J_vret hr hlk dX1_copySnapshot_40
def mX1_partAt (nc : Nat) (n0 : Nat) (f1 : Nat) (i1 : Nat) (a2 : Int32) (a3 : Int32) (μ : gM) : Option Int32 :=
  gLet (α := Int32) ((a2 - (μ 12 n0 4)) - 1) fun x1 =>
  if x1 < 0 then
    some a3
  else
    if (μ 12 n0 3) ≤ x1 then
      some a3
    else
      if 24 ≤ x1 then
        some a3
      else
        gChk (inb x1 24) <|
        some (μ f1 i1 (x1.toNatClampNeg))
set_option maxHeartbeats 4000000 in
set_option maxRecDepth 100000 in
theorem kX1_partAt (l : Launch) (D : va_G) (tc : Nat → ClassId) (sa : Nat → Nat) (ad : Nat → Nat → Nat) (nc : Nat) (hnc : 0 < nc ∧ nc ≤ 2) (hI : gI (gE_C nc) ad) (n0 : Nat) (hn0 : n0 < 5 * nc) (f1 : Nat) (i1 : Nat) (hf1 : (f1, i1) ∈ gE_C nc) (hk1 : gkd_C f1 = .inr (.inl (0, 24))) (a2 : Int32) (a3 : Int32) (μ : gM) (r : Int32) (h : mX1_partAt nc n0 f1 i1 a2 a3 μ = some r) : gMet l yX1_partAt cX1_partAt 5 (some .int) ({ frames := 0, cells := 0, slots := 0, locals := 0 } : Room) D (gE_C nc) gkd_C tc ad (grh_C nc) sa [.ref (ad 12 n0), .ref (ad f1 i1), .int a2, .int a3] μ (some (.int r)) μ := by
  refine gMet_of hI ⟨by decide +kernel, Nat.le_of_ble_eq_true rfl⟩ (fun p e s m args below meth c sz hr hlk => ?_)
  unfold mX1_partAt at h
  show JC p l e ({ frames := 0, cells := 0, slots := 0, locals := 0 } : Room) s m args below meth c cX1_partAt 5 RX1 D tc sa ad nc sz (some (.int r)) μ μ 0 [(0, .ref (ad 12 n0)), (1, .ref (ad f1 i1)), (2, .int a2), (3, .int a3)] []
  refine J_iload_n (i := 2) (q := 2) (pc1 := 1) dX1_partAt_0 rfl rfl rfl ?_
  refine J_aload_n (i := 0) (q := 0) (pc1 := 2) dX1_partAt_1 rfl rfl rfl ?_
  refine J_getI (T := TX1) (pc1 := 5) (eC12 hn0) rfl rfl inX1 4 (by decide) rfl flX1_25 rfl dX1_partAt_2 rfl ?_
  refine J_isub (pc1 := 6) dX1_partAt_5 rfl ?_
  refine J_iconst (v := 1) (pc1 := 7) dX1_partAt_6 (by decide) rfl ?_
  refine J_isub (pc1 := 8) dX1_partAt_7 rfl ?_
  obtain ⟨x1, e3, h⟩ := gLet_s h
  refine J_top (fun y2 e4 => ?_)
  have e4x : x1 = y2 := (e4.trans e3.symm).symm
  subst e4x
  refine J_istore (i := 4) (lv1 := [(4, .int x1), (0, .ref (ad 12 n0)), (1, .ref (ad f1 i1)), (2, .int a2), (3, .int a3)]) (pc1 := 10) dX1_partAt_8 (by decide) rfl rfl ?_
  refine J_iload (i := 4) (q := 0) (pc1 := 12) dX1_partAt_10 rfl rfl ?_
  refine J_if_lt (tgt := 38) (pc1 := 15) dX1_partAt_12 (by decide) (fun q5 => ?_) rfl (fun q5 => ?_)
  · rw [if_pos q5] at h
    refine J_iload_n (i := 3) (q := 4) (pc1 := 39) dX1_partAt_38 rfl rfl rfl ?_
    cases h
    exact J_iret hr hlk dX1_partAt_39
  · rw [if_neg q5] at h
    refine J_iload (i := 4) (q := 0) (pc1 := 17) dX1_partAt_15 rfl rfl ?_
    refine J_aload_n (i := 0) (q := 1) (pc1 := 18) dX1_partAt_17 rfl rfl rfl ?_
    refine J_getI (T := TX1) (pc1 := 21) (eC12 hn0) rfl rfl inX1 3 (by decide) rfl flX1_21 rfl dX1_partAt_18 rfl ?_
    refine J_icmp_ge (tgt := 38) (pc1 := 24) dX1_partAt_21 (by decide) (fun q6 => ?_) rfl (fun q6 => ?_)
    · rw [if_pos q6] at h
      refine J_iload_n (i := 3) (q := 4) (pc1 := 39) dX1_partAt_38 rfl rfl rfl ?_
      cases h
      exact J_iret hr hlk dX1_partAt_39
    · rw [if_neg q6] at h
      refine J_iload (i := 4) (q := 0) (pc1 := 26) dX1_partAt_24 rfl rfl ?_
      refine J_aload_n (i := 1) (q := 2) (pc1 := 27) dX1_partAt_26 rfl rfl rfl ?_
      refine J_alen (v := 24) (n := 24) (pc1 := 28) hf1 hk1 rfl rfl dX1_partAt_27 rfl ?_
      refine J_icmp_ge (tgt := 38) (pc1 := 31) dX1_partAt_28 (by decide) (fun q7 => ?_) rfl (fun q7 => ?_)
      · rw [if_pos q7] at h
        refine J_iload_n (i := 3) (q := 4) (pc1 := 39) dX1_partAt_38 rfl rfl rfl ?_
        cases h
        exact J_iret hr hlk dX1_partAt_39
      · rw [if_neg q7] at h
        refine J_aload_n (i := 1) (q := 2) (pc1 := 32) dX1_partAt_31 rfl rfl rfl ?_
        refine J_iload (i := 4) (q := 0) (pc1 := 34) dX1_partAt_32 rfl rfl ?_
        obtain ⟨h8, h⟩ := gChk_s h
        refine J_iald (ix := (x1.toNatClampNeg)) (pc1 := 35) rfl hf1 hk1 h8 dX1_partAt_34 rfl ?_
        refine J_goto (tgt := 39) dX1_partAt_35 (by decide) ?_
        cases h
        exact J_iret hr hlk dX1_partAt_39
def mX1_termAt (nc : Nat) (n0 : Nat) (a1 : Int32) (μ : gM) : Option Int32 :=
  gBp (mX1_partAt nc n0 16 n0 a1 (μ 12 n0 5) μ) fun r2 =>
  some r2
set_option maxHeartbeats 4000000 in
set_option maxRecDepth 100000 in
theorem kX1_termAt (l : Launch) (D : va_G) (tc : Nat → ClassId) (sa : Nat → Nat) (ad : Nat → Nat → Nat) (nc : Nat) (hnc : 0 < nc ∧ nc ≤ 2) (hI : gI (gE_C nc) ad) (n0 : Nat) (hn0 : n0 < 5 * nc) (a1 : Int32) (μ : gM) (r : Int32) (h : mX1_termAt nc n0 a1 μ = some r) : gMet l yX1_termAt cX1_termAt 2 (some .int) ({ frames := 1, cells := 0, slots := 0, locals := 24 } : Room) D (gE_C nc) gkd_C tc ad (grh_C nc) sa [.ref (ad 12 n0), .int a1] μ (some (.int r)) μ := by
  refine gMet_of hI ⟨by decide +kernel, Nat.le_of_ble_eq_true rfl⟩ (fun p e s m args below meth c sz hr hlk => ?_)
  unfold mX1_termAt at h
  show JC p l e ({ frames := 1, cells := 0, slots := 0, locals := 24 } : Room) s m args below meth c cX1_termAt 2 RX1 D tc sa ad nc sz (some (.int r)) μ μ 0 [(0, .ref (ad 12 n0)), (1, .int a1)] []
  refine J_aload_n (i := 0) (q := 0) (pc1 := 1) dX1_termAt_0 rfl rfl rfl ?_
  refine J_aload_n (i := 0) (q := 0) (pc1 := 2) dX1_termAt_1 rfl rfl rfl ?_
  refine J_getR (T := TX1) (f' := 16) (i' := n0) (pc1 := 5) (eC12 hn0) rfl rfl inX1 0 (by decide) rfl rfl flX1_9 rfl dX1_termAt_2 rfl ?_
  refine J_iload_n (i := 1) (q := 1) (pc1 := 6) dX1_termAt_5 rfl rfl rfl ?_
  refine J_aload_n (i := 0) (q := 0) (pc1 := 7) dX1_termAt_6 rfl rfl rfl ?_
  refine J_getI (T := TX1) (pc1 := 10) (eC12 hn0) rfl rfl inX1 5 (by decide) rfl flX1_28 rfl dX1_termAt_7 rfl ?_
  obtain ⟨r2, hc1, h⟩ := gBp_s h
  refine J_callV (As := [.ref (ad 16 n0), .int a1, .int (μ 12 n0 5)]) (ad := ad) (f := 12) (i := n0) (st := []) (st1 := [.int r2]) (pc1 := 13) (kX1_partAt l D tc sa ad nc hnc hI n0 hn0 16 n0 (eC16 hn0) rfl a1 (μ 12 n0 5) μ r2 hc1) wcX1_partAt wlX1_49 (eC12 hn0) rfl rfl rfl ⟨rfl, rfl, Nat.le_of_ble_eq_true rfl, Nat.le_of_ble_eq_true rfl⟩ ⟨Nat.zero_le _, Nat.zero_le _⟩ (Nat.le_of_ble_eq_true rfl) dX1_termAt_10 rfl rfl ?_
  cases h
  exact J_iret hr hlk dX1_termAt_13
def mX1_copyEntries (nc : Nat) (n0 : Nat) (a1 : Int32) (t2 : Nat) (μ : gM) : Option gM :=
  gLet (α := Int32) ((a1 - (μ 12 n0 4)) - 1) fun x1 =>
  gLet (α := gM) (w3 μ 19 t2 3 0) fun μ5 =>
  gJon (fun (μ7 : gM) =>
      some μ7) fun j8 =>
  gFx2 (fun rec11 (x9 : Int32) (μ10 : gM) =>
      if 4 ≤ x9 then
        j8 μ10
      else
        gLet (α := Int32) (x1 + x9) fun x13 =>
        if x13 < 0 then
          some μ10
        else
          if (μ10 12 n0 3) ≤ x13 then
            some μ10
          else
            if x13 < 24 then
              gChk (inb x13 24) <|
              gChk (inb x9 4) <|
              gLet (α := gM) (w3 μ10 20 t2 (x9.toNatClampNeg) (μ10 16 n0 (x13.toNatClampNeg))) fun μ22 =>
              gChk (inb x13 24) <|
              gChk (inb x9 4) <|
              gLet (α := gM) (w3 μ22 21 t2 (x9.toNatClampNeg) (μ22 17 n0 (x13.toNatClampNeg))) fun μ26 =>
              gChk (inb x13 24) <|
              gChk (inb x9 4) <|
              gLet (α := gM) (w3 μ26 22 t2 (x9.toNatClampNeg) (μ26 18 n0 (x13.toNatClampNeg))) fun μ30 =>
              gLet (α := gM) (w3 μ30 19 t2 3 (x9 + 1)) fun μ32 =>
              rec11 (x9 + 1) μ32
            else
              some μ10) 1000000 0 μ5
set_option maxHeartbeats 4000000 in
set_option maxRecDepth 100000 in
theorem kX1_copyEntries (l : Launch) (D : va_G) (tc : Nat → ClassId) (sa : Nat → Nat) (ad : Nat → Nat → Nat) (nc : Nat) (hnc : 0 < nc ∧ nc ≤ 2) (hI : gI (gE_C nc) ad) (n0 : Nat) (hn0 : n0 < 5 * nc) (a1 : Int32) (t2 : Nat) (ht2 : t2 < 42 * nc) (μ : gM) (μ' : gM) (h : mX1_copyEntries nc n0 a1 t2 μ = some μ') : gMet l yX1_copyEntries cX1_copyEntries 6 (none) ({ frames := 0, cells := 0, slots := 0, locals := 0 } : Room) D (gE_C nc) gkd_C tc ad (grh_C nc) sa [.ref (ad 12 n0), .int a1, .ref (ad 19 t2)] μ (none) μ' := by
  refine gMet_of hI ⟨by decide +kernel, Nat.le_of_ble_eq_true rfl⟩ (fun p e s m args below meth c sz hr hlk => ?_)
  unfold mX1_copyEntries at h
  show JC p l e ({ frames := 0, cells := 0, slots := 0, locals := 0 } : Room) s m args below meth c cX1_copyEntries 6 RX1 D tc sa ad nc sz (none) μ' μ 0 [(0, .ref (ad 12 n0)), (1, .int a1), (2, .ref (ad 19 t2))] []
  refine J_iload_n (i := 1) (q := 1) (pc1 := 1) dX1_copyEntries_0 rfl rfl rfl ?_
  refine J_aload_n (i := 0) (q := 0) (pc1 := 2) dX1_copyEntries_1 rfl rfl rfl ?_
  refine J_getI (T := TX1) (pc1 := 5) (eC12 hn0) rfl rfl inX1 4 (by decide) rfl flX1_25 rfl dX1_copyEntries_2 rfl ?_
  refine J_isub (pc1 := 6) dX1_copyEntries_5 rfl ?_
  refine J_iconst (v := 1) (pc1 := 7) dX1_copyEntries_6 (by decide) rfl ?_
  refine J_isub (pc1 := 8) dX1_copyEntries_7 rfl ?_
  obtain ⟨x1, e3, h⟩ := gLet_s h
  refine J_top (fun y2 e4 => ?_)
  have e4x : x1 = y2 := (e4.trans e3.symm).symm
  subst e4x
  refine J_istore_n (i := 3) (lv1 := [(3, .int x1), (0, .ref (ad 12 n0)), (1, .int a1), (2, .ref (ad 19 t2))]) (pc1 := 9) dX1_copyEntries_8 rfl (by decide) rfl rfl ?_
  refine J_aload_n (i := 2) (q := 3) (pc1 := 10) dX1_copyEntries_9 rfl rfl rfl ?_
  refine J_iconst (v := 0) (pc1 := 11) dX1_copyEntries_10 (by decide) rfl ?_
  refine J_putI (T := TX2) (pc1 := 14) (eC19 ht2) rfl rfl inX2 tyX2 tyX2_ok nmX2 3 (by decide) rfl (fun _ _ _ _ => gh19) flX1_95 rfl rfl rfl rfl dX1_copyEntries_11 rfl ?_
  obtain ⟨μ5, e6, h⟩ := gLet_s h
  rw [← e6]
  clear e6
  refine J_iconst (v := 0) (pc1 := 15) dX1_copyEntries_14 (by decide) rfl ?_
  refine J_istore (i := 4) (lv1 := [(4, .int 0), (3, .int x1), (0, .ref (ad 12 n0)), (1, .int a1), (2, .ref (ad 19 t2))]) (pc1 := 17) dX1_copyEntries_15 (by decide) rfl rfl ?_
  obtain ⟨j8, ej8, h⟩ := gJon_s h
  have kj8 : ∀ (μ7 : gM), j8 μ7 = some μ' → JC p l e ({ frames := 0, cells := 0, slots := 0, locals := 0 } : Room) s m args below meth c cX1_copyEntries 6 RX1 D tc sa ad nc sz (none) μ' μ7 107 [] [] := by
    intro μ7 h
    rw [ej8] at h
    try dsimp only at h
    cases h
    exact J_vret hr hlk dX1_copyEntries_107
  clear ej8
  refine J_sub [2, 4, 1, 0] (lv1 := [(0, .ref (ad 12 n0)), (2, .ref (ad 19 t2)), (3, .int x1), (4, .int 0)]) rfl ?_
  refine gFx2_s (P := fun x9 μ10 => JC p l e ({ frames := 0, cells := 0, slots := 0, locals := 0 } : Room) s m args below meth c cX1_copyEntries 6 RX1 D tc sa ad nc sz (none) μ' μ10 17 [(0, .ref (ad 12 n0)), (2, .ref (ad 19 t2)), (3, .int x1), (4, .int x9)] []) (fun rec11 ihrec11 x9 μ10 h => ?_) _ _ _ h
  try dsimp only at h
  refine J_iload (i := 4) (q := 3) (pc1 := 19) dX1_copyEntries_17 rfl rfl ?_
  refine J_iconst (v := 4) (pc1 := 20) dX1_copyEntries_19 (by decide) rfl ?_
  refine J_icmp_ge (tgt := 107) (pc1 := 23) dX1_copyEntries_20 (by decide) (fun q12 => ?_) rfl (fun q12 => ?_)
  · rw [if_pos q12] at h
    refine J_sub [] (lv1 := []) rfl ?_
    exact kj8 _ h
  · rw [if_neg q12] at h
    refine J_iload_n (i := 3) (q := 2) (pc1 := 24) dX1_copyEntries_23 rfl rfl rfl ?_
    refine J_iload (i := 4) (q := 3) (pc1 := 26) dX1_copyEntries_24 rfl rfl ?_
    refine J_iadd (pc1 := 27) dX1_copyEntries_26 rfl ?_
    obtain ⟨x13, e15, h⟩ := gLet_s h
    refine J_top (fun y14 e16 => ?_)
    have e16x : x13 = y14 := (e16.trans e15.symm).symm
    subst e16x
    refine J_istore (i := 5) (lv1 := [(5, .int x13), (0, .ref (ad 12 n0)), (2, .ref (ad 19 t2)), (3, .int x1), (4, .int x9)]) (pc1 := 29) dX1_copyEntries_27 (by decide) rfl rfl ?_
    refine J_iload (i := 5) (q := 0) (pc1 := 31) dX1_copyEntries_29 rfl rfl ?_
    refine J_if_lt (tgt := 50) (pc1 := 34) dX1_copyEntries_31 (by decide) (fun q17 => ?_) rfl (fun q17 => ?_)
    · rw [if_pos q17] at h
      cases h
      exact J_vret hr hlk dX1_copyEntries_50
    · rw [if_neg q17] at h
      refine J_iload (i := 5) (q := 0) (pc1 := 36) dX1_copyEntries_34 rfl rfl ?_
      refine J_aload_n (i := 0) (q := 1) (pc1 := 37) dX1_copyEntries_36 rfl rfl rfl ?_
      refine J_getI (T := TX1) (pc1 := 40) (eC12 hn0) rfl rfl inX1 3 (by decide) rfl flX1_21 rfl dX1_copyEntries_37 rfl ?_
      refine J_icmp_ge (tgt := 50) (pc1 := 43) dX1_copyEntries_40 (by decide) (fun q18 => ?_) rfl (fun q18 => ?_)
      · rw [if_pos q18] at h
        cases h
        exact J_vret hr hlk dX1_copyEntries_50
      · rw [if_neg q18] at h
        refine J_iload (i := 5) (q := 0) (pc1 := 45) dX1_copyEntries_43 rfl rfl ?_
        refine J_bipush (v := 24) (pc1 := 47) dX1_copyEntries_45 (by decide) rfl ?_
        refine J_icmp_lt (tgt := 51) (pc1 := 50) dX1_copyEntries_47 (by decide) (fun q19 => ?_) rfl (fun q19 => ?_)
        · rw [if_pos q19] at h
          refine J_aload_n (i := 2) (q := 2) (pc1 := 52) dX1_copyEntries_51 rfl rfl rfl ?_
          refine J_getR (T := TX2) (f' := 20) (i' := t2) (pc1 := 55) (eC19 ht2) rfl rfl inX2 0 (by decide) rfl rfl flX1_98 rfl dX1_copyEntries_52 rfl ?_
          refine J_iload (i := 4) (q := 4) (pc1 := 57) dX1_copyEntries_55 rfl rfl ?_
          refine J_aload_n (i := 0) (q := 1) (pc1 := 58) dX1_copyEntries_57 rfl rfl rfl ?_
          refine J_getR (T := TX1) (f' := 16) (i' := n0) (pc1 := 61) (eC12 hn0) rfl rfl inX1 0 (by decide) rfl rfl flX1_9 rfl dX1_copyEntries_58 rfl ?_
          refine J_iload (i := 5) (q := 0) (pc1 := 63) dX1_copyEntries_61 rfl rfl ?_
          obtain ⟨h20, h⟩ := gChk_s h
          refine J_iald (ix := (x13.toNatClampNeg)) (pc1 := 64) rfl (eC16 hn0) rfl h20 dX1_copyEntries_63 rfl ?_
          obtain ⟨h21, h⟩ := gChk_s h
          refine J_iast (ix := (x9.toNatClampNeg)) (pc1 := 65) rfl (eC20 ht2) rfl h21 dX1_copyEntries_64 rfl ?_
          obtain ⟨μ22, e23, h⟩ := gLet_s h
          rw [← e23]
          clear e23
          refine J_aload_n (i := 2) (q := 2) (pc1 := 66) dX1_copyEntries_65 rfl rfl rfl ?_
          refine J_getR (T := TX2) (f' := 21) (i' := t2) (pc1 := 69) (eC19 ht2) rfl rfl inX2 1 (by decide) rfl rfl flX1_99 rfl dX1_copyEntries_66 rfl ?_
          refine J_iload (i := 4) (q := 4) (pc1 := 71) dX1_copyEntries_69 rfl rfl ?_
          refine J_aload_n (i := 0) (q := 1) (pc1 := 72) dX1_copyEntries_71 rfl rfl rfl ?_
          refine J_getR (T := TX1) (f' := 17) (i' := n0) (pc1 := 75) (eC12 hn0) rfl rfl inX1 1 (by decide) rfl rfl flX1_15 rfl dX1_copyEntries_72 rfl ?_
          refine J_iload (i := 5) (q := 0) (pc1 := 77) dX1_copyEntries_75 rfl rfl ?_
          obtain ⟨h24, h⟩ := gChk_s h
          refine J_iald (ix := (x13.toNatClampNeg)) (pc1 := 78) rfl (eC17 hn0) rfl h24 dX1_copyEntries_77 rfl ?_
          obtain ⟨h25, h⟩ := gChk_s h
          refine J_iast (ix := (x9.toNatClampNeg)) (pc1 := 79) rfl (eC21 ht2) rfl h25 dX1_copyEntries_78 rfl ?_
          obtain ⟨μ26, e27, h⟩ := gLet_s h
          rw [← e27]
          clear e27
          refine J_aload_n (i := 2) (q := 2) (pc1 := 80) dX1_copyEntries_79 rfl rfl rfl ?_
          refine J_getR (T := TX2) (f' := 22) (i' := t2) (pc1 := 83) (eC19 ht2) rfl rfl inX2 2 (by decide) rfl rfl flX1_100 rfl dX1_copyEntries_80 rfl ?_
          refine J_iload (i := 4) (q := 4) (pc1 := 85) dX1_copyEntries_83 rfl rfl ?_
          refine J_aload_n (i := 0) (q := 1) (pc1 := 86) dX1_copyEntries_85 rfl rfl rfl ?_
          refine J_getR (T := TX1) (f' := 18) (i' := n0) (pc1 := 89) (eC12 hn0) rfl rfl inX1 2 (by decide) rfl rfl flX1_18 rfl dX1_copyEntries_86 rfl ?_
          refine J_iload (i := 5) (q := 0) (pc1 := 91) dX1_copyEntries_89 rfl rfl ?_
          obtain ⟨h28, h⟩ := gChk_s h
          refine J_iald (ix := (x13.toNatClampNeg)) (pc1 := 92) rfl (eC18 hn0) rfl h28 dX1_copyEntries_91 rfl ?_
          obtain ⟨h29, h⟩ := gChk_s h
          refine J_iast (ix := (x9.toNatClampNeg)) (pc1 := 93) rfl (eC22 ht2) rfl h29 dX1_copyEntries_92 rfl ?_
          obtain ⟨μ30, e31, h⟩ := gLet_s h
          rw [← e31]
          clear e31
          refine J_aload_n (i := 2) (q := 2) (pc1 := 94) dX1_copyEntries_93 rfl rfl rfl ?_
          refine J_iload (i := 4) (q := 4) (pc1 := 96) dX1_copyEntries_94 rfl rfl ?_
          refine J_iconst (v := 1) (pc1 := 97) dX1_copyEntries_96 (by decide) rfl ?_
          refine J_iadd (pc1 := 98) dX1_copyEntries_97 rfl ?_
          refine J_putI (T := TX2) (pc1 := 101) (eC19 ht2) rfl rfl inX2 tyX2 tyX2_ok nmX2 3 (by decide) rfl (fun _ _ _ _ => gh19) flX1_95 rfl rfl rfl rfl dX1_copyEntries_98 rfl ?_
          obtain ⟨μ32, e33, h⟩ := gLet_s h
          rw [← e33]
          clear e33
          refine J_iinc (i := 4) (q := 4) (v := x9 + 1) (lv1 := [(4, .int (x9 + 1)), (5, .int x13), (0, .ref (ad 12 n0)), (2, .ref (ad 19 t2)), (3, .int x1)]) (pc1 := 104) dX1_copyEntries_101 rfl rfl (by decide) rfl rfl ?_
          refine J_goto (tgt := 17) dX1_copyEntries_104 (by decide) ?_
          refine J_sub [2, 3, 4, 0] (lv1 := [(0, .ref (ad 12 n0)), (2, .ref (ad 19 t2)), (3, .int x1), (4, .int (x9 + 1))]) rfl ?_
          exact ihrec11 _ _ h
        · rw [if_neg q19] at h
          cases h
          exact J_vret hr hlk dX1_copyEntries_50
def mX1_fits (nc : Nat) (n0 : Nat) (a1 : Int32) (a2 : Int32) (μ : gM) : Option Int32 :=
  if a1 ≤ (μ 12 n0 4) then
    some 1
  else
    gBp (mX1_lastIndex nc n0 μ) fun r3 =>
    if r3 < a1 then
      some 0
    else
      gBp (mX1_termAt nc n0 a1 μ) fun r6 =>
      if r6 = a2 then
        some 1
      else
        some 0
set_option maxHeartbeats 4000000 in
set_option maxRecDepth 100000 in
theorem kX1_fits (l : Launch) (D : va_G) (tc : Nat → ClassId) (sa : Nat → Nat) (ad : Nat → Nat → Nat) (nc : Nat) (hnc : 0 < nc ∧ nc ≤ 2) (hI : gI (gE_C nc) ad) (n0 : Nat) (hn0 : n0 < 5 * nc) (a1 : Int32) (a2 : Int32) (μ : gM) (r : Int32) (h : mX1_fits nc n0 a1 a2 μ = some r) : gMet l yX1_fits cX1_fits 3 (some .boolean) ({ frames := 2, cells := 0, slots := 0, locals := 45 } : Room) D (gE_C nc) gkd_C tc ad (grh_C nc) sa [.ref (ad 12 n0), .int a1, .int a2] μ (some (.int r)) μ := by
  refine gMet_of hI ⟨by decide +kernel, Nat.le_of_ble_eq_true rfl⟩ (fun p e s m args below meth c sz hr hlk => ?_)
  unfold mX1_fits at h
  show JC p l e ({ frames := 2, cells := 0, slots := 0, locals := 45 } : Room) s m args below meth c cX1_fits 3 RX1 D tc sa ad nc sz (some (.int r)) μ μ 0 [(0, .ref (ad 12 n0)), (1, .int a1), (2, .int a2)] []
  refine J_iload_n (i := 1) (q := 1) (pc1 := 1) dX1_fits_0 rfl rfl rfl ?_
  refine J_aload_n (i := 0) (q := 0) (pc1 := 2) dX1_fits_1 rfl rfl rfl ?_
  refine J_getI (T := TX1) (pc1 := 5) (eC12 hn0) rfl rfl inX1 4 (by decide) rfl flX1_25 rfl dX1_fits_2 rfl ?_
  refine J_icmp_le (tgt := 25) (pc1 := 8) dX1_fits_5 (by decide) (fun q1 => ?_) rfl (fun q1 => ?_)
  · rw [if_pos q1] at h
    refine J_iconst (v := 1) (pc1 := 26) dX1_fits_25 (by decide) rfl ?_
    refine J_goto (tgt := 30) dX1_fits_26 (by decide) ?_
    cases h
    exact J_zret (by decide) hr hlk dX1_fits_30
  · rw [if_neg q1] at h
    refine J_iload_n (i := 1) (q := 1) (pc1 := 9) dX1_fits_8 rfl rfl rfl ?_
    refine J_aload_n (i := 0) (q := 0) (pc1 := 10) dX1_fits_9 rfl rfl rfl ?_
    obtain ⟨r3, hc2, h⟩ := gBp_s h
    refine J_callV (As := []) (ad := ad) (f := 12) (i := n0) (st := [.int a1]) (st1 := [.int r3, .int a1]) (pc1 := 13) (kX1_lastIndex l D tc sa ad nc hnc hI n0 hn0 μ r3 hc2) wcX1_lastIndex wlX1_57 (eC12 hn0) rfl rfl rfl ⟨rfl, rfl, Nat.le_of_ble_eq_true rfl, Nat.le_of_ble_eq_true rfl⟩ ⟨Nat.zero_le _, Nat.zero_le _⟩ (Nat.le_of_ble_eq_true rfl) dX1_fits_10 rfl rfl ?_
    refine J_icmp_gt (tgt := 29) (pc1 := 16) dX1_fits_13 (by decide) (fun q4 => ?_) rfl (fun q4 => ?_)
    · rw [if_pos q4] at h
      refine J_iconst (v := 0) (pc1 := 30) dX1_fits_29 (by decide) rfl ?_
      cases h
      exact J_zret (by decide) hr hlk dX1_fits_30
    · rw [if_neg q4] at h
      refine J_aload_n (i := 0) (q := 0) (pc1 := 17) dX1_fits_16 rfl rfl rfl ?_
      refine J_iload_n (i := 1) (q := 1) (pc1 := 18) dX1_fits_17 rfl rfl rfl ?_
      obtain ⟨r6, hc5, h⟩ := gBp_s h
      refine J_callV (As := [.int a1]) (ad := ad) (f := 12) (i := n0) (st := []) (st1 := [.int r6]) (pc1 := 21) (kX1_termAt l D tc sa ad nc hnc hI n0 hn0 a1 μ r6 hc5) wcX1_termAt wlX1_60 (eC12 hn0) rfl rfl rfl ⟨rfl, rfl, Nat.le_of_ble_eq_true rfl, Nat.le_of_ble_eq_true rfl⟩ ⟨Nat.zero_le _, Nat.zero_le _⟩ (Nat.le_of_ble_eq_true rfl) dX1_fits_18 rfl rfl ?_
      refine J_iload_n (i := 2) (q := 2) (pc1 := 22) dX1_fits_21 rfl rfl rfl ?_
      refine J_icmp_ne (tgt := 29) (pc1 := 25) dX1_fits_22 (by decide) (fun q7 => ?_) rfl (fun q7 => ?_)
      · rw [if_neg q7] at h
        refine J_iconst (v := 0) (pc1 := 30) dX1_fits_29 (by decide) rfl ?_
        cases h
        exact J_zret (by decide) hr hlk dX1_fits_30
      · rw [if_pos q7] at h
        refine J_iconst (v := 1) (pc1 := 26) dX1_fits_25 (by decide) rfl ?_
        refine J_goto (tgt := 30) dX1_fits_26 (by decide) ?_
        cases h
        exact J_zret (by decide) hr hlk dX1_fits_30
def mX1_has (nc : Nat) (n0 : Nat) (a1 : Int32) (μ : gM) : Option Int32 :=
  if a1 ≤ (μ 12 n0 4) then
    some 0
  else
    if ((μ 12 n0 4) + (μ 12 n0 3)) < a1 then
      some 0
    else
      some 1
set_option maxHeartbeats 4000000 in
set_option maxRecDepth 100000 in
theorem kX1_has (l : Launch) (D : va_G) (tc : Nat → ClassId) (sa : Nat → Nat) (ad : Nat → Nat → Nat) (nc : Nat) (hnc : 0 < nc ∧ nc ≤ 2) (hI : gI (gE_C nc) ad) (n0 : Nat) (hn0 : n0 < 5 * nc) (a1 : Int32) (μ : gM) (r : Int32) (h : mX1_has nc n0 a1 μ = some r) : gMet l yX1_has cX1_has 2 (some .boolean) ({ frames := 0, cells := 0, slots := 0, locals := 0 } : Room) D (gE_C nc) gkd_C tc ad (grh_C nc) sa [.ref (ad 12 n0), .int a1] μ (some (.int r)) μ := by
  refine gMet_of hI ⟨by decide +kernel, Nat.le_of_ble_eq_true rfl⟩ (fun p e s m args below meth c sz hr hlk => ?_)
  unfold mX1_has at h
  show JC p l e ({ frames := 0, cells := 0, slots := 0, locals := 0 } : Room) s m args below meth c cX1_has 2 RX1 D tc sa ad nc sz (some (.int r)) μ μ 0 [(0, .ref (ad 12 n0)), (1, .int a1)] []
  refine J_iload_n (i := 1) (q := 1) (pc1 := 1) dX1_has_0 rfl rfl rfl ?_
  refine J_aload_n (i := 0) (q := 0) (pc1 := 2) dX1_has_1 rfl rfl rfl ?_
  refine J_getI (T := TX1) (pc1 := 5) (eC12 hn0) rfl rfl inX1 4 (by decide) rfl flX1_25 rfl dX1_has_2 rfl ?_
  refine J_icmp_le (tgt := 25) (pc1 := 8) dX1_has_5 (by decide) (fun q1 => ?_) rfl (fun q1 => ?_)
  · rw [if_pos q1] at h
    refine J_iconst (v := 0) (pc1 := 26) dX1_has_25 (by decide) rfl ?_
    cases h
    exact J_zret (by decide) hr hlk dX1_has_26
  · rw [if_neg q1] at h
    refine J_iload_n (i := 1) (q := 1) (pc1 := 9) dX1_has_8 rfl rfl rfl ?_
    refine J_aload_n (i := 0) (q := 0) (pc1 := 10) dX1_has_9 rfl rfl rfl ?_
    refine J_getI (T := TX1) (pc1 := 13) (eC12 hn0) rfl rfl inX1 4 (by decide) rfl flX1_25 rfl dX1_has_10 rfl ?_
    refine J_aload_n (i := 0) (q := 0) (pc1 := 14) dX1_has_13 rfl rfl rfl ?_
    refine J_getI (T := TX1) (pc1 := 17) (eC12 hn0) rfl rfl inX1 3 (by decide) rfl flX1_21 rfl dX1_has_14 rfl ?_
    refine J_iadd (pc1 := 18) dX1_has_17 rfl ?_
    refine J_icmp_gt (tgt := 25) (pc1 := 21) dX1_has_18 (by decide) (fun q2 => ?_) rfl (fun q2 => ?_)
    · rw [if_pos q2] at h
      refine J_iconst (v := 0) (pc1 := 26) dX1_has_25 (by decide) rfl ?_
      cases h
      exact J_zret (by decide) hr hlk dX1_has_26
    · rw [if_neg q2] at h
      refine J_iconst (v := 1) (pc1 := 22) dX1_has_21 (by decide) rfl ?_
      refine J_goto (tgt := 26) dX1_has_22 (by decide) ?_
      cases h
      exact J_zret (by decide) hr hlk dX1_has_26
def mX1_cutFrom (nc : Nat) (n0 : Nat) (a1 : Int32) (μ : gM) : Option (Int32 × gM) :=
  gLet (α := Int32) ((((μ 12 n0 4) + (μ 12 n0 3)) - a1) + 1) fun x1 =>
  if x1 ≤ 0 then
    some (0, μ)
  else
    if x1 ≤ (μ 12 n0 3) then
      gLet (α := gM) (w3 μ 12 n0 3 ((μ 12 n0 3) - x1)) fun μ7 =>
      gBp (mX1_findConfiguration nc n0 μ7) fun μ10 =>
      some (x1, μ10)
    else
      some (0, μ)
set_option maxHeartbeats 4000000 in
set_option maxRecDepth 100000 in
theorem kX1_cutFrom (l : Launch) (D : va_G) (tc : Nat → ClassId) (sa : Nat → Nat) (ad : Nat → Nat → Nat) (nc : Nat) (hnc : 0 < nc ∧ nc ≤ 2) (hI : gI (gE_C nc) ad) (n0 : Nat) (hn0 : n0 < 5 * nc) (a1 : Int32) (μ : gM) (r : Int32) (μ' : gM) (h : mX1_cutFrom nc n0 a1 μ = some (r, μ')) : gMet l yX1_cutFrom cX1_cutFrom 3 (some .int) ({ frames := 2, cells := 0, slots := 0, locals := 42 } : Room) D (gE_C nc) gkd_C tc ad (grh_C nc) sa [.ref (ad 12 n0), .int a1] μ (some (.int r)) μ' := by
  refine gMet_of hI ⟨by decide +kernel, Nat.le_of_ble_eq_true rfl⟩ (fun p e s m args below meth c sz hr hlk => ?_)
  unfold mX1_cutFrom at h
  show JC p l e ({ frames := 2, cells := 0, slots := 0, locals := 42 } : Room) s m args below meth c cX1_cutFrom 3 RX1 D tc sa ad nc sz (some (.int r)) μ' μ 0 [(0, .ref (ad 12 n0)), (1, .int a1)] []
  refine J_aload_n (i := 0) (q := 0) (pc1 := 1) dX1_cutFrom_0 rfl rfl rfl ?_
  refine J_getI (T := TX1) (pc1 := 4) (eC12 hn0) rfl rfl inX1 4 (by decide) rfl flX1_25 rfl dX1_cutFrom_1 rfl ?_
  refine J_aload_n (i := 0) (q := 0) (pc1 := 5) dX1_cutFrom_4 rfl rfl rfl ?_
  refine J_getI (T := TX1) (pc1 := 8) (eC12 hn0) rfl rfl inX1 3 (by decide) rfl flX1_21 rfl dX1_cutFrom_5 rfl ?_
  refine J_iadd (pc1 := 9) dX1_cutFrom_8 rfl ?_
  refine J_iload_n (i := 1) (q := 1) (pc1 := 10) dX1_cutFrom_9 rfl rfl rfl ?_
  refine J_isub (pc1 := 11) dX1_cutFrom_10 rfl ?_
  refine J_iconst (v := 1) (pc1 := 12) dX1_cutFrom_11 (by decide) rfl ?_
  refine J_iadd (pc1 := 13) dX1_cutFrom_12 rfl ?_
  obtain ⟨x1, e3, h⟩ := gLet_s h
  refine J_top (fun y2 e4 => ?_)
  have e4x : x1 = y2 := (e4.trans e3.symm).symm
  subst e4x
  refine J_istore_n (i := 2) (lv1 := [(2, .int x1), (0, .ref (ad 12 n0)), (1, .int a1)]) (pc1 := 14) dX1_cutFrom_13 rfl (by decide) rfl rfl ?_
  refine J_iload_n (i := 2) (q := 0) (pc1 := 15) dX1_cutFrom_14 rfl rfl rfl ?_
  refine J_if_le (tgt := 26) (pc1 := 18) dX1_cutFrom_15 (by decide) (fun q5 => ?_) rfl (fun q5 => ?_)
  · rw [if_pos q5] at h
    refine J_iconst (v := 0) (pc1 := 27) dX1_cutFrom_26 (by decide) rfl ?_
    cases h
    exact J_iret hr hlk dX1_cutFrom_27
  · rw [if_neg q5] at h
    refine J_iload_n (i := 2) (q := 0) (pc1 := 19) dX1_cutFrom_18 rfl rfl rfl ?_
    refine J_aload_n (i := 0) (q := 1) (pc1 := 20) dX1_cutFrom_19 rfl rfl rfl ?_
    refine J_getI (T := TX1) (pc1 := 23) (eC12 hn0) rfl rfl inX1 3 (by decide) rfl flX1_21 rfl dX1_cutFrom_20 rfl ?_
    refine J_icmp_le (tgt := 28) (pc1 := 26) dX1_cutFrom_23 (by decide) (fun q6 => ?_) rfl (fun q6 => ?_)
    · rw [if_pos q6] at h
      refine J_aload_n (i := 0) (q := 1) (pc1 := 29) dX1_cutFrom_28 rfl rfl rfl ?_
      refine J_dup (pc1 := 30) dX1_cutFrom_29 rfl rfl ?_
      refine J_getI (T := TX1) (pc1 := 33) (eC12 hn0) rfl rfl inX1 3 (by decide) rfl flX1_21 rfl dX1_cutFrom_30 rfl ?_
      refine J_iload_n (i := 2) (q := 0) (pc1 := 34) dX1_cutFrom_33 rfl rfl rfl ?_
      refine J_isub (pc1 := 35) dX1_cutFrom_34 rfl ?_
      refine J_putI (T := TX1) (pc1 := 38) (eC12 hn0) rfl rfl inX1 tyX1 tyX1_ok nmX1 3 (by decide) rfl (fun _ _ _ _ => gh12) flX1_21 rfl rfl rfl rfl dX1_cutFrom_35 rfl ?_
      obtain ⟨μ7, e8, h⟩ := gLet_s h
      rw [← e8]
      clear e8
      refine J_aload_n (i := 0) (q := 1) (pc1 := 39) dX1_cutFrom_38 rfl rfl rfl ?_
      obtain ⟨μ10, hc9, h⟩ := gBp_s h
      refine J_callV (As := []) (ad := ad) (f := 12) (i := n0) (st := []) (st1 := []) (pc1 := 42) (kX1_findConfiguration l D tc sa ad nc hnc hI n0 hn0 μ7 μ10 hc9) wcX1_findConfiguration wlX1_40 (eC12 hn0) rfl rfl rfl ⟨rfl, rfl, Nat.le_of_ble_eq_true rfl, Nat.le_of_ble_eq_true rfl⟩ ⟨Nat.zero_le _, Nat.zero_le _⟩ (Nat.le_of_ble_eq_true rfl) dX1_cutFrom_39 rfl rfl ?_
      refine J_iload_n (i := 2) (q := 0) (pc1 := 43) dX1_cutFrom_42 rfl rfl rfl ?_
      cases h
      exact J_iret hr hlk dX1_cutFrom_43
    · rw [if_neg q6] at h
      refine J_iconst (v := 0) (pc1 := 27) dX1_cutFrom_26 (by decide) rfl ?_
      cases h
      exact J_iret hr hlk dX1_cutFrom_27
def mX1_append (nc : Nat) (n0 : Nat) (a1 : Int32) (a2 : Int32) (a3 : Int32) (μ : gM) : Option (Int32 × gM) :=
  if (μ 12 n0 3) < 0 then
    some (0, μ)
  else
    if (μ 12 n0 3) < 24 then
      gChk (inb (μ 12 n0 3) 24) <|
      gLet (α := gM) (w3 μ 16 n0 ((μ 12 n0 3).toNatClampNeg) a1) fun μ4 =>
      gChk (inb (μ4 12 n0 3) 24) <|
      gLet (α := gM) (w3 μ4 17 n0 ((μ4 12 n0 3).toNatClampNeg) a2) fun μ7 =>
      gChk (inb (μ7 12 n0 3) 24) <|
      gLet (α := gM) (w3 μ7 18 n0 ((μ7 12 n0 3).toNatClampNeg) a3) fun μ10 =>
      gLet (α := gM) (w3 μ10 12 n0 3 ((μ10 12 n0 3) + 1)) fun μ12 =>
      gBp (mX1_findConfiguration nc n0 μ12) fun μ15 =>
      some (1, μ15)
    else
      some (0, μ)
set_option maxHeartbeats 4000000 in
set_option maxRecDepth 100000 in
theorem kX1_append (l : Launch) (D : va_G) (tc : Nat → ClassId) (sa : Nat → Nat) (ad : Nat → Nat → Nat) (nc : Nat) (hnc : 0 < nc ∧ nc ≤ 2) (hI : gI (gE_C nc) ad) (n0 : Nat) (hn0 : n0 < 5 * nc) (a1 : Int32) (a2 : Int32) (a3 : Int32) (μ : gM) (r : Int32) (μ' : gM) (h : mX1_append nc n0 a1 a2 a3 μ = some (r, μ')) : gMet l yX1_append cX1_append 4 (some .boolean) ({ frames := 2, cells := 0, slots := 0, locals := 42 } : Room) D (gE_C nc) gkd_C tc ad (grh_C nc) sa [.ref (ad 12 n0), .int a1, .int a2, .int a3] μ (some (.int r)) μ' := by
  refine gMet_of hI ⟨by decide +kernel, Nat.le_of_ble_eq_true rfl⟩ (fun p e s m args below meth c sz hr hlk => ?_)
  unfold mX1_append at h
  show JC p l e ({ frames := 2, cells := 0, slots := 0, locals := 42 } : Room) s m args below meth c cX1_append 4 RX1 D tc sa ad nc sz (some (.int r)) μ' μ 0 [(0, .ref (ad 12 n0)), (1, .int a1), (2, .int a2), (3, .int a3)] []
  refine J_aload_n (i := 0) (q := 0) (pc1 := 1) dX1_append_0 rfl rfl rfl ?_
  refine J_getI (T := TX1) (pc1 := 4) (eC12 hn0) rfl rfl inX1 3 (by decide) rfl flX1_21 rfl dX1_append_1 rfl ?_
  refine J_if_lt (tgt := 16) (pc1 := 7) dX1_append_4 (by decide) (fun q1 => ?_) rfl (fun q1 => ?_)
  · rw [if_pos q1] at h
    refine J_iconst (v := 0) (pc1 := 17) dX1_append_16 (by decide) rfl ?_
    cases h
    exact J_zret (by decide) hr hlk dX1_append_17
  · rw [if_neg q1] at h
    refine J_aload_n (i := 0) (q := 0) (pc1 := 8) dX1_append_7 rfl rfl rfl ?_
    refine J_getI (T := TX1) (pc1 := 11) (eC12 hn0) rfl rfl inX1 3 (by decide) rfl flX1_21 rfl dX1_append_8 rfl ?_
    refine J_bipush (v := 24) (pc1 := 13) dX1_append_11 (by decide) rfl ?_
    refine J_icmp_lt (tgt := 18) (pc1 := 16) dX1_append_13 (by decide) (fun q2 => ?_) rfl (fun q2 => ?_)
    · rw [if_pos q2] at h
      refine J_aload_n (i := 0) (q := 0) (pc1 := 19) dX1_append_18 rfl rfl rfl ?_
      refine J_getR (T := TX1) (f' := 16) (i' := n0) (pc1 := 22) (eC12 hn0) rfl rfl inX1 0 (by decide) rfl rfl flX1_9 rfl dX1_append_19 rfl ?_
      refine J_aload_n (i := 0) (q := 0) (pc1 := 23) dX1_append_22 rfl rfl rfl ?_
      refine J_getI (T := TX1) (pc1 := 26) (eC12 hn0) rfl rfl inX1 3 (by decide) rfl flX1_21 rfl dX1_append_23 rfl ?_
      refine J_iload_n (i := 1) (q := 1) (pc1 := 27) dX1_append_26 rfl rfl rfl ?_
      obtain ⟨h3, h⟩ := gChk_s h
      refine J_iast (ix := ((μ 12 n0 3).toNatClampNeg)) (pc1 := 28) rfl (eC16 hn0) rfl h3 dX1_append_27 rfl ?_
      obtain ⟨μ4, e5, h⟩ := gLet_s h
      rw [← e5]
      clear e5
      refine J_aload_n (i := 0) (q := 0) (pc1 := 29) dX1_append_28 rfl rfl rfl ?_
      refine J_getR (T := TX1) (f' := 17) (i' := n0) (pc1 := 32) (eC12 hn0) rfl rfl inX1 1 (by decide) rfl rfl flX1_15 rfl dX1_append_29 rfl ?_
      refine J_aload_n (i := 0) (q := 0) (pc1 := 33) dX1_append_32 rfl rfl rfl ?_
      refine J_getI (T := TX1) (pc1 := 36) (eC12 hn0) rfl rfl inX1 3 (by decide) rfl flX1_21 rfl dX1_append_33 rfl ?_
      refine J_iload_n (i := 2) (q := 2) (pc1 := 37) dX1_append_36 rfl rfl rfl ?_
      obtain ⟨h6, h⟩ := gChk_s h
      refine J_iast (ix := ((μ4 12 n0 3).toNatClampNeg)) (pc1 := 38) rfl (eC17 hn0) rfl h6 dX1_append_37 rfl ?_
      obtain ⟨μ7, e8, h⟩ := gLet_s h
      rw [← e8]
      clear e8
      refine J_aload_n (i := 0) (q := 0) (pc1 := 39) dX1_append_38 rfl rfl rfl ?_
      refine J_getR (T := TX1) (f' := 18) (i' := n0) (pc1 := 42) (eC12 hn0) rfl rfl inX1 2 (by decide) rfl rfl flX1_18 rfl dX1_append_39 rfl ?_
      refine J_aload_n (i := 0) (q := 0) (pc1 := 43) dX1_append_42 rfl rfl rfl ?_
      refine J_getI (T := TX1) (pc1 := 46) (eC12 hn0) rfl rfl inX1 3 (by decide) rfl flX1_21 rfl dX1_append_43 rfl ?_
      refine J_iload_n (i := 3) (q := 3) (pc1 := 47) dX1_append_46 rfl rfl rfl ?_
      obtain ⟨h9, h⟩ := gChk_s h
      refine J_iast (ix := ((μ7 12 n0 3).toNatClampNeg)) (pc1 := 48) rfl (eC18 hn0) rfl h9 dX1_append_47 rfl ?_
      obtain ⟨μ10, e11, h⟩ := gLet_s h
      rw [← e11]
      clear e11
      refine J_aload_n (i := 0) (q := 0) (pc1 := 49) dX1_append_48 rfl rfl rfl ?_
      refine J_dup (pc1 := 50) dX1_append_49 rfl rfl ?_
      refine J_getI (T := TX1) (pc1 := 53) (eC12 hn0) rfl rfl inX1 3 (by decide) rfl flX1_21 rfl dX1_append_50 rfl ?_
      refine J_iconst (v := 1) (pc1 := 54) dX1_append_53 (by decide) rfl ?_
      refine J_iadd (pc1 := 55) dX1_append_54 rfl ?_
      refine J_putI (T := TX1) (pc1 := 58) (eC12 hn0) rfl rfl inX1 tyX1 tyX1_ok nmX1 3 (by decide) rfl (fun _ _ _ _ => gh12) flX1_21 rfl rfl rfl rfl dX1_append_55 rfl ?_
      obtain ⟨μ12, e13, h⟩ := gLet_s h
      rw [← e13]
      clear e13
      refine J_aload_n (i := 0) (q := 0) (pc1 := 59) dX1_append_58 rfl rfl rfl ?_
      obtain ⟨μ15, hc14, h⟩ := gBp_s h
      refine J_callV (As := []) (ad := ad) (f := 12) (i := n0) (st := []) (st1 := []) (pc1 := 62) (kX1_findConfiguration l D tc sa ad nc hnc hI n0 hn0 μ12 μ15 hc14) wcX1_findConfiguration wlX1_40 (eC12 hn0) rfl rfl rfl ⟨rfl, rfl, Nat.le_of_ble_eq_true rfl, Nat.le_of_ble_eq_true rfl⟩ ⟨Nat.zero_le _, Nat.zero_le _⟩ (Nat.le_of_ble_eq_true rfl) dX1_append_59 rfl rfl ?_
      refine J_iconst (v := 1) (pc1 := 63) dX1_append_62 (by decide) rfl ?_
      cases h
      exact J_zret (by decide) hr hlk dX1_append_63
    · rw [if_neg q2] at h
      refine J_iconst (v := 0) (pc1 := 17) dX1_append_16 (by decide) rfl ?_
      cases h
      exact J_zret (by decide) hr hlk dX1_append_17
def mX1_dropFirst (nc : Nat) (n0 : Nat) (a1 : Int32) (μ : gM) : Option gM :=
  if a1 < 0 then
    some μ
  else
    if (μ 12 n0 3) < a1 then
      some μ
    else
      if (μ 12 n0 3) ≤ 24 then
        gChk (¬ a1 < 0) <|
        gChk (¬ ((μ 12 n0 3) - a1) < 0) <|
        gChk (a1.toNatClampNeg + ((μ 12 n0 3) - a1).toNatClampNeg ≤ 24) <|
        gChk (0 + ((μ 12 n0 3) - a1).toNatClampNeg ≤ 24) <|
        gLet (α := gM) (cp3 μ 16 n0 16 n0 a1.toNatClampNeg 0 ((μ 12 n0 3) - a1).toNatClampNeg) fun μ8 =>
        gChk (¬ a1 < 0) <|
        gChk (¬ ((μ8 12 n0 3) - a1) < 0) <|
        gChk (a1.toNatClampNeg + ((μ8 12 n0 3) - a1).toNatClampNeg ≤ 24) <|
        gChk (0 + ((μ8 12 n0 3) - a1).toNatClampNeg ≤ 24) <|
        gLet (α := gM) (cp3 μ8 17 n0 17 n0 a1.toNatClampNeg 0 ((μ8 12 n0 3) - a1).toNatClampNeg) fun μ14 =>
        gChk (¬ a1 < 0) <|
        gChk (¬ ((μ14 12 n0 3) - a1) < 0) <|
        gChk (a1.toNatClampNeg + ((μ14 12 n0 3) - a1).toNatClampNeg ≤ 24) <|
        gChk (0 + ((μ14 12 n0 3) - a1).toNatClampNeg ≤ 24) <|
        gLet (α := gM) (cp3 μ14 18 n0 18 n0 a1.toNatClampNeg 0 ((μ14 12 n0 3) - a1).toNatClampNeg) fun μ20 =>
        gLet (α := gM) (w3 μ20 12 n0 3 ((μ20 12 n0 3) - a1)) fun μ22 =>
        some μ22
      else
        some μ
set_option maxHeartbeats 4000000 in
set_option maxRecDepth 100000 in
theorem kX1_dropFirst (l : Launch) (D : va_G) (tc : Nat → ClassId) (sa : Nat → Nat) (ad : Nat → Nat → Nat) (nc : Nat) (hnc : 0 < nc ∧ nc ≤ 2) (hI : gI (gE_C nc) ad) (n0 : Nat) (hn0 : n0 < 5 * nc) (a1 : Int32) (μ : gM) (μ' : gM) (h : mX1_dropFirst nc n0 a1 μ = some μ') : gMet l yX1_dropFirst cX1_dropFirst 2 (none) ({ frames := 1, cells := 0, slots := 0, locals := 80 } : Room) D (gE_C nc) gkd_C tc ad (grh_C nc) sa [.ref (ad 12 n0), .int a1] μ (none) μ' := by
  refine gMet_of hI ⟨by decide +kernel, Nat.le_of_ble_eq_true rfl⟩ (fun p e s m args below meth c sz hr hlk => ?_)
  unfold mX1_dropFirst at h
  show JC p l e ({ frames := 1, cells := 0, slots := 0, locals := 80 } : Room) s m args below meth c cX1_dropFirst 2 RX1 D tc sa ad nc sz (none) μ' μ 0 [(0, .ref (ad 12 n0)), (1, .int a1)] []
  refine J_iload_n (i := 1) (q := 1) (pc1 := 1) dX1_dropFirst_0 rfl rfl rfl ?_
  refine J_if_lt (tgt := 21) (pc1 := 4) dX1_dropFirst_1 (by decide) (fun q1 => ?_) rfl (fun q1 => ?_)
  · rw [if_pos q1] at h
    cases h
    exact J_vret hr hlk dX1_dropFirst_21
  · rw [if_neg q1] at h
    refine J_iload_n (i := 1) (q := 1) (pc1 := 5) dX1_dropFirst_4 rfl rfl rfl ?_
    refine J_aload_n (i := 0) (q := 0) (pc1 := 6) dX1_dropFirst_5 rfl rfl rfl ?_
    refine J_getI (T := TX1) (pc1 := 9) (eC12 hn0) rfl rfl inX1 3 (by decide) rfl flX1_21 rfl dX1_dropFirst_6 rfl ?_
    refine J_icmp_gt (tgt := 21) (pc1 := 12) dX1_dropFirst_9 (by decide) (fun q2 => ?_) rfl (fun q2 => ?_)
    · rw [if_pos q2] at h
      cases h
      exact J_vret hr hlk dX1_dropFirst_21
    · rw [if_neg q2] at h
      refine J_aload_n (i := 0) (q := 0) (pc1 := 13) dX1_dropFirst_12 rfl rfl rfl ?_
      refine J_getI (T := TX1) (pc1 := 16) (eC12 hn0) rfl rfl inX1 3 (by decide) rfl flX1_21 rfl dX1_dropFirst_13 rfl ?_
      refine J_bipush (v := 24) (pc1 := 18) dX1_dropFirst_16 (by decide) rfl ?_
      refine J_icmp_le (tgt := 22) (pc1 := 21) dX1_dropFirst_18 (by decide) (fun q3 => ?_) rfl (fun q3 => ?_)
      · rw [if_pos q3] at h
        refine J_aload_n (i := 0) (q := 0) (pc1 := 23) dX1_dropFirst_22 rfl rfl rfl ?_
        refine J_getR (T := TX1) (f' := 16) (i' := n0) (pc1 := 26) (eC12 hn0) rfl rfl inX1 0 (by decide) rfl rfl flX1_9 rfl dX1_dropFirst_23 rfl ?_
        refine J_iload_n (i := 1) (q := 1) (pc1 := 27) dX1_dropFirst_26 rfl rfl rfl ?_
        refine J_aload_n (i := 0) (q := 0) (pc1 := 28) dX1_dropFirst_27 rfl rfl rfl ?_
        refine J_getR (T := TX1) (f' := 16) (i' := n0) (pc1 := 31) (eC12 hn0) rfl rfl inX1 0 (by decide) rfl rfl flX1_9 rfl dX1_dropFirst_28 rfl ?_
        refine J_iconst (v := 0) (pc1 := 32) dX1_dropFirst_31 (by decide) rfl ?_
        refine J_aload_n (i := 0) (q := 0) (pc1 := 33) dX1_dropFirst_32 rfl rfl rfl ?_
        refine J_getI (T := TX1) (pc1 := 36) (eC12 hn0) rfl rfl inX1 3 (by decide) rfl flX1_21 rfl dX1_dropFirst_33 rfl ?_
        refine J_iload_n (i := 1) (q := 1) (pc1 := 37) dX1_dropFirst_36 rfl rfl rfl ?_
        refine J_isub (pc1 := 38) dX1_dropFirst_37 rfl ?_
        obtain ⟨h4, h⟩ := gChk_s h
        obtain ⟨h5, h⟩ := gChk_s h
        obtain ⟨h6, h⟩ := gChk_s h
        obtain ⟨h7, h⟩ := gChk_s h
        refine J_copy (μ' := cp3 μ 16 n0 16 n0 a1.toNatClampNeg 0 ((μ 12 n0 3) - a1).toNatClampNeg) (pc1 := 41) (eC16 hn0) rfl (eC16 hn0) rfl wlX1_43 acNat acSt iniSys h4 (by decide) h5 h6 h7 (cp3_at _ _ _ _ _ _ _ _) (fun _ _ hne => cp3_ne hne) ⟨Nat.le_of_ble_eq_true rfl, Nat.le_of_ble_eq_true rfl⟩ dX1_dropFirst_38 rfl ?_
        obtain ⟨μ8, e9, h⟩ := gLet_s h
        rw [← e9]
        clear e9
        refine J_aload_n (i := 0) (q := 0) (pc1 := 42) dX1_dropFirst_41 rfl rfl rfl ?_
        refine J_getR (T := TX1) (f' := 17) (i' := n0) (pc1 := 45) (eC12 hn0) rfl rfl inX1 1 (by decide) rfl rfl flX1_15 rfl dX1_dropFirst_42 rfl ?_
        refine J_iload_n (i := 1) (q := 1) (pc1 := 46) dX1_dropFirst_45 rfl rfl rfl ?_
        refine J_aload_n (i := 0) (q := 0) (pc1 := 47) dX1_dropFirst_46 rfl rfl rfl ?_
        refine J_getR (T := TX1) (f' := 17) (i' := n0) (pc1 := 50) (eC12 hn0) rfl rfl inX1 1 (by decide) rfl rfl flX1_15 rfl dX1_dropFirst_47 rfl ?_
        refine J_iconst (v := 0) (pc1 := 51) dX1_dropFirst_50 (by decide) rfl ?_
        refine J_aload_n (i := 0) (q := 0) (pc1 := 52) dX1_dropFirst_51 rfl rfl rfl ?_
        refine J_getI (T := TX1) (pc1 := 55) (eC12 hn0) rfl rfl inX1 3 (by decide) rfl flX1_21 rfl dX1_dropFirst_52 rfl ?_
        refine J_iload_n (i := 1) (q := 1) (pc1 := 56) dX1_dropFirst_55 rfl rfl rfl ?_
        refine J_isub (pc1 := 57) dX1_dropFirst_56 rfl ?_
        obtain ⟨h10, h⟩ := gChk_s h
        obtain ⟨h11, h⟩ := gChk_s h
        obtain ⟨h12, h⟩ := gChk_s h
        obtain ⟨h13, h⟩ := gChk_s h
        refine J_copy (μ' := cp3 μ8 17 n0 17 n0 a1.toNatClampNeg 0 ((μ8 12 n0 3) - a1).toNatClampNeg) (pc1 := 60) (eC17 hn0) rfl (eC17 hn0) rfl wlX1_43 acNat acSt iniSys h10 (by decide) h11 h12 h13 (cp3_at _ _ _ _ _ _ _ _) (fun _ _ hne => cp3_ne hne) ⟨Nat.le_of_ble_eq_true rfl, Nat.le_of_ble_eq_true rfl⟩ dX1_dropFirst_57 rfl ?_
        obtain ⟨μ14, e15, h⟩ := gLet_s h
        rw [← e15]
        clear e15
        refine J_aload_n (i := 0) (q := 0) (pc1 := 61) dX1_dropFirst_60 rfl rfl rfl ?_
        refine J_getR (T := TX1) (f' := 18) (i' := n0) (pc1 := 64) (eC12 hn0) rfl rfl inX1 2 (by decide) rfl rfl flX1_18 rfl dX1_dropFirst_61 rfl ?_
        refine J_iload_n (i := 1) (q := 1) (pc1 := 65) dX1_dropFirst_64 rfl rfl rfl ?_
        refine J_aload_n (i := 0) (q := 0) (pc1 := 66) dX1_dropFirst_65 rfl rfl rfl ?_
        refine J_getR (T := TX1) (f' := 18) (i' := n0) (pc1 := 69) (eC12 hn0) rfl rfl inX1 2 (by decide) rfl rfl flX1_18 rfl dX1_dropFirst_66 rfl ?_
        refine J_iconst (v := 0) (pc1 := 70) dX1_dropFirst_69 (by decide) rfl ?_
        refine J_aload_n (i := 0) (q := 0) (pc1 := 71) dX1_dropFirst_70 rfl rfl rfl ?_
        refine J_getI (T := TX1) (pc1 := 74) (eC12 hn0) rfl rfl inX1 3 (by decide) rfl flX1_21 rfl dX1_dropFirst_71 rfl ?_
        refine J_iload_n (i := 1) (q := 1) (pc1 := 75) dX1_dropFirst_74 rfl rfl rfl ?_
        refine J_isub (pc1 := 76) dX1_dropFirst_75 rfl ?_
        obtain ⟨h16, h⟩ := gChk_s h
        obtain ⟨h17, h⟩ := gChk_s h
        obtain ⟨h18, h⟩ := gChk_s h
        obtain ⟨h19, h⟩ := gChk_s h
        refine J_copy (μ' := cp3 μ14 18 n0 18 n0 a1.toNatClampNeg 0 ((μ14 12 n0 3) - a1).toNatClampNeg) (pc1 := 79) (eC18 hn0) rfl (eC18 hn0) rfl wlX1_43 acNat acSt iniSys h16 (by decide) h17 h18 h19 (cp3_at _ _ _ _ _ _ _ _) (fun _ _ hne => cp3_ne hne) ⟨Nat.le_of_ble_eq_true rfl, Nat.le_of_ble_eq_true rfl⟩ dX1_dropFirst_76 rfl ?_
        obtain ⟨μ20, e21, h⟩ := gLet_s h
        rw [← e21]
        clear e21
        refine J_aload_n (i := 0) (q := 0) (pc1 := 80) dX1_dropFirst_79 rfl rfl rfl ?_
        refine J_dup (pc1 := 81) dX1_dropFirst_80 rfl rfl ?_
        refine J_getI (T := TX1) (pc1 := 84) (eC12 hn0) rfl rfl inX1 3 (by decide) rfl flX1_21 rfl dX1_dropFirst_81 rfl ?_
        refine J_iload_n (i := 1) (q := 1) (pc1 := 85) dX1_dropFirst_84 rfl rfl rfl ?_
        refine J_isub (pc1 := 86) dX1_dropFirst_85 rfl ?_
        refine J_putI (T := TX1) (pc1 := 89) (eC12 hn0) rfl rfl inX1 tyX1 tyX1_ok nmX1 3 (by decide) rfl (fun _ _ _ _ => gh12) flX1_21 rfl rfl rfl rfl dX1_dropFirst_86 rfl ?_
        obtain ⟨μ22, e23, h⟩ := gLet_s h
        rw [← e23]
        clear e23
        cases h
        exact J_vret hr hlk dX1_dropFirst_89
      · rw [if_neg q3] at h
        cases h
        exact J_vret hr hlk dX1_dropFirst_21
def mX1_install (nc : Nat) (n0 : Nat) (t1 : Nat) (μ : gM) : Option gM :=
  gBp (mX1_has nc n0 (μ 19 t1 10) μ) fun r2 =>
  gJon (fun (x3 : Int32) =>
      gLet (α := Int32) (if x3 = 0 then μ 12 n0 3 else (μ 19 t1 10) - (μ 12 n0 4)) fun x5 =>
      gBp (mX1_dropFirst nc n0 x5 μ) fun μ10 =>
      gLet (α := gM) (w3 μ10 12 n0 4 (μ10 19 t1 10)) fun μ11 =>
      gLet (α := gM) (w3 μ11 12 n0 5 (μ11 19 t1 11)) fun μ13 =>
      gLet (α := gM) (w3 μ13 12 n0 6 (μ13 19 t1 14)) fun μ15 =>
      gLet (α := gM) (w3 μ15 12 n0 7 (μ15 19 t1 15)) fun μ17 =>
      gLet (α := gM) (w3 μ17 12 n0 8 (μ17 19 t1 16)) fun μ19 =>
      gBp (mX1_findConfiguration nc n0 μ19) fun μ22 =>
      some μ22) fun j4 =>
  gJon (fun (u24 : Unit) =>
      j4 0) fun j23 =>
  if r2 = 0 then
    j23 () 
  else
    gBp (mX1_termAt nc n0 (μ 19 t1 10) μ) fun r27 =>
    gLet (α := Int32) (if r27 = (μ 19 t1 11) then 1 else 0) fun x28 =>
    gLet (α := Int32) (if x28 = 0 then μ 12 n0 3 else (μ 19 t1 10) - (μ 12 n0 4)) fun x32 =>
    gBp (mX1_dropFirst nc n0 x32 μ) fun μ37 =>
    gLet (α := gM) (w3 μ37 12 n0 4 (μ37 19 t1 10)) fun μ38 =>
    gLet (α := gM) (w3 μ38 12 n0 5 (μ38 19 t1 11)) fun μ40 =>
    gLet (α := gM) (w3 μ40 12 n0 6 (μ40 19 t1 14)) fun μ42 =>
    gLet (α := gM) (w3 μ42 12 n0 7 (μ42 19 t1 15)) fun μ44 =>
    gLet (α := gM) (w3 μ44 12 n0 8 (μ44 19 t1 16)) fun μ46 =>
    gBp (mX1_findConfiguration nc n0 μ46) fun μ49 =>
    some μ49
set_option maxHeartbeats 4000000 in
set_option maxRecDepth 100000 in
theorem kX1_install (l : Launch) (D : va_G) (tc : Nat → ClassId) (sa : Nat → Nat) (ad : Nat → Nat → Nat) (nc : Nat) (hnc : 0 < nc ∧ nc ≤ 2) (hI : gI (gE_C nc) ad) (n0 : Nat) (hn0 : n0 < 5 * nc) (t1 : Nat) (ht1 : t1 < 42 * nc) (μ : gM) (μ' : gM) (h : mX1_install nc n0 t1 μ = some μ') : gMet l yX1_install cX1_install 3 (none) ({ frames := 2, cells := 0, slots := 0, locals := 101 } : Room) D (gE_C nc) gkd_C tc ad (grh_C nc) sa [.ref (ad 12 n0), .ref (ad 19 t1)] μ (none) μ' := by
  refine gMet_of hI ⟨by decide +kernel, Nat.le_of_ble_eq_true rfl⟩ (fun p e s m args below meth c sz hr hlk => ?_)
  unfold mX1_install at h
  show JC p l e ({ frames := 2, cells := 0, slots := 0, locals := 101 } : Room) s m args below meth c cX1_install 3 RX1 D tc sa ad nc sz (none) μ' μ 0 [(0, .ref (ad 12 n0)), (1, .ref (ad 19 t1))] []
  refine J_aload_n (i := 0) (q := 0) (pc1 := 1) dX1_install_0 rfl rfl rfl ?_
  refine J_aload_n (i := 1) (q := 1) (pc1 := 2) dX1_install_1 rfl rfl rfl ?_
  refine J_getI (T := TX2) (pc1 := 5) (eC19 ht1) rfl rfl inX2 10 (by decide) rfl flX1_75 rfl dX1_install_2 rfl ?_
  obtain ⟨r2, hc1, h⟩ := gBp_s h
  refine J_callV (As := [.int (μ 19 t1 10)]) (ad := ad) (f := 12) (i := n0) (st := []) (st1 := [.int r2]) (pc1 := 8) (kX1_has l D tc sa ad nc hnc hI n0 hn0 (μ 19 t1 10) μ r2 hc1) wcX1_has wlX1_80 (eC12 hn0) rfl rfl rfl ⟨rfl, rfl, Nat.le_of_ble_eq_true rfl, Nat.le_of_ble_eq_true rfl⟩ ⟨Nat.zero_le _, Nat.zero_le _⟩ (Nat.le_of_ble_eq_true rfl) dX1_install_5 rfl rfl ?_
  obtain ⟨j4, ej4, h⟩ := gJon_s h
  have kj4 : ∀ (x3 : Int32), j4 x3 = some μ' → JC p l e ({ frames := 2, cells := 0, slots := 0, locals := 101 } : Room) s m args below meth c cX1_install 3 RX1 D tc sa ad nc sz (none) μ' μ 31 [(0, .ref (ad 12 n0)), (1, .ref (ad 19 t1))] [.int x3] := by
    intro x3 h
    rw [ej4] at h
    try dsimp only at h
    refine J_istore_n (i := 2) (lv1 := [(2, .int x3), (0, .ref (ad 12 n0)), (1, .ref (ad 19 t1))]) (pc1 := 32) dX1_install_31 rfl (by decide) rfl rfl ?_
    refine J_aload_n (i := 0) (q := 1) (pc1 := 33) dX1_install_32 rfl rfl rfl ?_
    refine J_iload_n (i := 2) (q := 0) (pc1 := 34) dX1_install_33 rfl rfl rfl ?_
    obtain ⟨x5, e6, h⟩ := gLet_s h
    have k7 : JC p l e ({ frames := 2, cells := 0, slots := 0, locals := 101 } : Room) s m args below meth c cX1_install 3 RX1 D tc sa ad nc sz (none) μ' μ 53 [(2, .int x3), (0, .ref (ad 12 n0)), (1, .ref (ad 19 t1))] [.int x5, .ref (ad 12 n0)] := by
      obtain ⟨μ10, hc9, h⟩ := gBp_s h
      refine J_callV (As := [.int x5]) (ad := ad) (f := 12) (i := n0) (st := []) (st1 := []) (pc1 := 56) (kX1_dropFirst l D tc sa ad nc hnc hI n0 hn0 x5 μ μ10 hc9) wcX1_dropFirst wlX1_71 (eC12 hn0) rfl rfl rfl ⟨rfl, rfl, Nat.le_of_ble_eq_true rfl, Nat.le_of_ble_eq_true rfl⟩ ⟨Nat.zero_le _, Nat.zero_le _⟩ (Nat.le_of_ble_eq_true rfl) dX1_install_53 rfl rfl ?_
      refine J_aload_n (i := 0) (q := 1) (pc1 := 57) dX1_install_56 rfl rfl rfl ?_
      refine J_aload_n (i := 1) (q := 2) (pc1 := 58) dX1_install_57 rfl rfl rfl ?_
      refine J_getI (T := TX2) (pc1 := 61) (eC19 ht1) rfl rfl inX2 10 (by decide) rfl flX1_75 rfl dX1_install_58 rfl ?_
      refine J_putI (T := TX1) (pc1 := 64) (eC12 hn0) rfl rfl inX1 tyX1 tyX1_ok nmX1 4 (by decide) rfl (fun _ _ _ _ => gh12) flX1_25 rfl rfl rfl rfl dX1_install_61 rfl ?_
      obtain ⟨μ11, e12, h⟩ := gLet_s h
      rw [← e12]
      clear e12
      refine J_aload_n (i := 0) (q := 1) (pc1 := 65) dX1_install_64 rfl rfl rfl ?_
      refine J_aload_n (i := 1) (q := 2) (pc1 := 66) dX1_install_65 rfl rfl rfl ?_
      refine J_getI (T := TX2) (pc1 := 69) (eC19 ht1) rfl rfl inX2 11 (by decide) rfl flX1_83 rfl dX1_install_66 rfl ?_
      refine J_putI (T := TX1) (pc1 := 72) (eC12 hn0) rfl rfl inX1 tyX1 tyX1_ok nmX1 5 (by decide) rfl (fun _ _ _ _ => gh12) flX1_28 rfl rfl rfl rfl dX1_install_69 rfl ?_
      obtain ⟨μ13, e14, h⟩ := gLet_s h
      rw [← e14]
      clear e14
      refine J_aload_n (i := 0) (q := 1) (pc1 := 73) dX1_install_72 rfl rfl rfl ?_
      refine J_aload_n (i := 1) (q := 2) (pc1 := 74) dX1_install_73 rfl rfl rfl ?_
      refine J_getI (T := TX2) (pc1 := 77) (eC19 ht1) rfl rfl inX2 14 (by decide) rfl flX1_86 rfl dX1_install_74 rfl ?_
      refine J_putI (T := TX1) (pc1 := 80) (eC12 hn0) rfl rfl inX1 tyX1 tyX1_ok nmX1 6 (by decide) rfl (fun _ _ _ _ => gh12) flX1_31 rfl rfl rfl rfl dX1_install_77 rfl ?_
      obtain ⟨μ15, e16, h⟩ := gLet_s h
      rw [← e16]
      clear e16
      refine J_aload_n (i := 0) (q := 1) (pc1 := 81) dX1_install_80 rfl rfl rfl ?_
      refine J_aload_n (i := 1) (q := 2) (pc1 := 82) dX1_install_81 rfl rfl rfl ?_
      refine J_getI (T := TX2) (pc1 := 85) (eC19 ht1) rfl rfl inX2 15 (by decide) rfl flX1_89 rfl dX1_install_82 rfl ?_
      refine J_putI (T := TX1) (pc1 := 88) (eC12 hn0) rfl rfl inX1 tyX1 tyX1_ok nmX1 7 (by decide) rfl (fun _ _ _ _ => gh12) flX1_34 rfl rfl rfl rfl dX1_install_85 rfl ?_
      obtain ⟨μ17, e18, h⟩ := gLet_s h
      rw [← e18]
      clear e18
      refine J_aload_n (i := 0) (q := 1) (pc1 := 89) dX1_install_88 rfl rfl rfl ?_
      refine J_aload_n (i := 1) (q := 2) (pc1 := 90) dX1_install_89 rfl rfl rfl ?_
      refine J_getI (T := TX2) (pc1 := 93) (eC19 ht1) rfl rfl inX2 16 (by decide) rfl flX1_92 rfl dX1_install_90 rfl ?_
      refine J_putI (T := TX1) (pc1 := 96) (eC12 hn0) rfl rfl inX1 tyX1 tyX1_ok nmX1 8 (by decide) rfl (fun _ _ _ _ => gh12) flX1_37 rfl rfl rfl rfl dX1_install_93 rfl ?_
      obtain ⟨μ19, e20, h⟩ := gLet_s h
      rw [← e20]
      clear e20
      refine J_aload_n (i := 0) (q := 1) (pc1 := 97) dX1_install_96 rfl rfl rfl ?_
      obtain ⟨μ22, hc21, h⟩ := gBp_s h
      refine J_callV (As := []) (ad := ad) (f := 12) (i := n0) (st := []) (st1 := []) (pc1 := 100) (kX1_findConfiguration l D tc sa ad nc hnc hI n0 hn0 μ19 μ22 hc21) wcX1_findConfiguration wlX1_40 (eC12 hn0) rfl rfl rfl ⟨rfl, rfl, Nat.le_of_ble_eq_true rfl, Nat.le_of_ble_eq_true rfl⟩ ⟨Nat.zero_le _, Nat.zero_le _⟩ (Nat.le_of_ble_eq_true rfl) dX1_install_97 rfl rfl ?_
      cases h
      exact J_vret hr hlk dX1_install_100
    refine J_if_eq (tgt := 49) (pc1 := 37) dX1_install_34 (by decide) (fun q8 => ?_) rfl (fun q8 => ?_)
    · rw [if_pos q8] at e6
      subst e6
      refine J_aload_n (i := 0) (q := 1) (pc1 := 50) dX1_install_49 rfl rfl rfl ?_
      refine J_getI (T := TX1) (pc1 := 53) (eC12 hn0) rfl rfl inX1 3 (by decide) rfl flX1_21 rfl dX1_install_50 rfl ?_
      exact k7
    · rw [if_neg q8] at e6
      subst e6
      refine J_aload_n (i := 1) (q := 2) (pc1 := 38) dX1_install_37 rfl rfl rfl ?_
      refine J_getI (T := TX2) (pc1 := 41) (eC19 ht1) rfl rfl inX2 10 (by decide) rfl flX1_75 rfl dX1_install_38 rfl ?_
      refine J_aload_n (i := 0) (q := 1) (pc1 := 42) dX1_install_41 rfl rfl rfl ?_
      refine J_getI (T := TX1) (pc1 := 45) (eC12 hn0) rfl rfl inX1 4 (by decide) rfl flX1_25 rfl dX1_install_42 rfl ?_
      refine J_isub (pc1 := 46) dX1_install_45 rfl ?_
      refine J_goto (tgt := 53) dX1_install_46 (by decide) ?_
      exact k7
  clear ej4
  obtain ⟨j23, ej23, h⟩ := gJon_s h
  have kj23 : ∀ (u24 : Unit), j23 u24 = some μ' → JC p l e ({ frames := 2, cells := 0, slots := 0, locals := 101 } : Room) s m args below meth c cX1_install 3 RX1 D tc sa ad nc sz (none) μ' μ 30 [(0, .ref (ad 12 n0)), (1, .ref (ad 19 t1))] [] := by
    intro u24 h
    rw [ej23] at h
    try dsimp only at h
    refine J_iconst (v := 0) (pc1 := 31) dX1_install_30 (by decide) rfl ?_
    exact kj4 _ h
  clear ej23
  refine J_if_eq (tgt := 30) (pc1 := 11) dX1_install_8 (by decide) (fun q25 => ?_) rfl (fun q25 => ?_)
  · rw [if_pos q25] at h
    exact kj23 ()  h
  · rw [if_neg q25] at h
    refine J_aload_n (i := 0) (q := 0) (pc1 := 12) dX1_install_11 rfl rfl rfl ?_
    refine J_aload_n (i := 1) (q := 1) (pc1 := 13) dX1_install_12 rfl rfl rfl ?_
    refine J_getI (T := TX2) (pc1 := 16) (eC19 ht1) rfl rfl inX2 10 (by decide) rfl flX1_75 rfl dX1_install_13 rfl ?_
    obtain ⟨r27, hc26, h⟩ := gBp_s h
    refine J_callV (As := [.int (μ 19 t1 10)]) (ad := ad) (f := 12) (i := n0) (st := []) (st1 := [.int r27]) (pc1 := 19) (kX1_termAt l D tc sa ad nc hnc hI n0 hn0 (μ 19 t1 10) μ r27 hc26) wcX1_termAt wlX1_60 (eC12 hn0) rfl rfl rfl ⟨rfl, rfl, Nat.le_of_ble_eq_true rfl, Nat.le_of_ble_eq_true rfl⟩ ⟨Nat.zero_le _, Nat.zero_le _⟩ (Nat.le_of_ble_eq_true rfl) dX1_install_16 rfl rfl ?_
    refine J_aload_n (i := 1) (q := 1) (pc1 := 20) dX1_install_19 rfl rfl rfl ?_
    refine J_getI (T := TX2) (pc1 := 23) (eC19 ht1) rfl rfl inX2 11 (by decide) rfl flX1_83 rfl dX1_install_20 rfl ?_
    obtain ⟨x28, e29, h⟩ := gLet_s h
    have k30 : JC p l e ({ frames := 2, cells := 0, slots := 0, locals := 101 } : Room) s m args below meth c cX1_install 3 RX1 D tc sa ad nc sz (none) μ' μ 31 [(0, .ref (ad 12 n0)), (1, .ref (ad 19 t1))] [.int x28] := by
      refine J_istore_n (i := 2) (lv1 := [(2, .int x28), (0, .ref (ad 12 n0)), (1, .ref (ad 19 t1))]) (pc1 := 32) dX1_install_31 rfl (by decide) rfl rfl ?_
      refine J_aload_n (i := 0) (q := 1) (pc1 := 33) dX1_install_32 rfl rfl rfl ?_
      refine J_iload_n (i := 2) (q := 0) (pc1 := 34) dX1_install_33 rfl rfl rfl ?_
      obtain ⟨x32, e33, h⟩ := gLet_s h
      have k34 : JC p l e ({ frames := 2, cells := 0, slots := 0, locals := 101 } : Room) s m args below meth c cX1_install 3 RX1 D tc sa ad nc sz (none) μ' μ 53 [(2, .int x28), (0, .ref (ad 12 n0)), (1, .ref (ad 19 t1))] [.int x32, .ref (ad 12 n0)] := by
        obtain ⟨μ37, hc36, h⟩ := gBp_s h
        refine J_callV (As := [.int x32]) (ad := ad) (f := 12) (i := n0) (st := []) (st1 := []) (pc1 := 56) (kX1_dropFirst l D tc sa ad nc hnc hI n0 hn0 x32 μ μ37 hc36) wcX1_dropFirst wlX1_71 (eC12 hn0) rfl rfl rfl ⟨rfl, rfl, Nat.le_of_ble_eq_true rfl, Nat.le_of_ble_eq_true rfl⟩ ⟨Nat.zero_le _, Nat.zero_le _⟩ (Nat.le_of_ble_eq_true rfl) dX1_install_53 rfl rfl ?_
        refine J_aload_n (i := 0) (q := 1) (pc1 := 57) dX1_install_56 rfl rfl rfl ?_
        refine J_aload_n (i := 1) (q := 2) (pc1 := 58) dX1_install_57 rfl rfl rfl ?_
        refine J_getI (T := TX2) (pc1 := 61) (eC19 ht1) rfl rfl inX2 10 (by decide) rfl flX1_75 rfl dX1_install_58 rfl ?_
        refine J_putI (T := TX1) (pc1 := 64) (eC12 hn0) rfl rfl inX1 tyX1 tyX1_ok nmX1 4 (by decide) rfl (fun _ _ _ _ => gh12) flX1_25 rfl rfl rfl rfl dX1_install_61 rfl ?_
        obtain ⟨μ38, e39, h⟩ := gLet_s h
        rw [← e39]
        clear e39
        refine J_aload_n (i := 0) (q := 1) (pc1 := 65) dX1_install_64 rfl rfl rfl ?_
        refine J_aload_n (i := 1) (q := 2) (pc1 := 66) dX1_install_65 rfl rfl rfl ?_
        refine J_getI (T := TX2) (pc1 := 69) (eC19 ht1) rfl rfl inX2 11 (by decide) rfl flX1_83 rfl dX1_install_66 rfl ?_
        refine J_putI (T := TX1) (pc1 := 72) (eC12 hn0) rfl rfl inX1 tyX1 tyX1_ok nmX1 5 (by decide) rfl (fun _ _ _ _ => gh12) flX1_28 rfl rfl rfl rfl dX1_install_69 rfl ?_
        obtain ⟨μ40, e41, h⟩ := gLet_s h
        rw [← e41]
        clear e41
        refine J_aload_n (i := 0) (q := 1) (pc1 := 73) dX1_install_72 rfl rfl rfl ?_
        refine J_aload_n (i := 1) (q := 2) (pc1 := 74) dX1_install_73 rfl rfl rfl ?_
        refine J_getI (T := TX2) (pc1 := 77) (eC19 ht1) rfl rfl inX2 14 (by decide) rfl flX1_86 rfl dX1_install_74 rfl ?_
        refine J_putI (T := TX1) (pc1 := 80) (eC12 hn0) rfl rfl inX1 tyX1 tyX1_ok nmX1 6 (by decide) rfl (fun _ _ _ _ => gh12) flX1_31 rfl rfl rfl rfl dX1_install_77 rfl ?_
        obtain ⟨μ42, e43, h⟩ := gLet_s h
        rw [← e43]
        clear e43
        refine J_aload_n (i := 0) (q := 1) (pc1 := 81) dX1_install_80 rfl rfl rfl ?_
        refine J_aload_n (i := 1) (q := 2) (pc1 := 82) dX1_install_81 rfl rfl rfl ?_
        refine J_getI (T := TX2) (pc1 := 85) (eC19 ht1) rfl rfl inX2 15 (by decide) rfl flX1_89 rfl dX1_install_82 rfl ?_
        refine J_putI (T := TX1) (pc1 := 88) (eC12 hn0) rfl rfl inX1 tyX1 tyX1_ok nmX1 7 (by decide) rfl (fun _ _ _ _ => gh12) flX1_34 rfl rfl rfl rfl dX1_install_85 rfl ?_
        obtain ⟨μ44, e45, h⟩ := gLet_s h
        rw [← e45]
        clear e45
        refine J_aload_n (i := 0) (q := 1) (pc1 := 89) dX1_install_88 rfl rfl rfl ?_
        refine J_aload_n (i := 1) (q := 2) (pc1 := 90) dX1_install_89 rfl rfl rfl ?_
        refine J_getI (T := TX2) (pc1 := 93) (eC19 ht1) rfl rfl inX2 16 (by decide) rfl flX1_92 rfl dX1_install_90 rfl ?_
        refine J_putI (T := TX1) (pc1 := 96) (eC12 hn0) rfl rfl inX1 tyX1 tyX1_ok nmX1 8 (by decide) rfl (fun _ _ _ _ => gh12) flX1_37 rfl rfl rfl rfl dX1_install_93 rfl ?_
        obtain ⟨μ46, e47, h⟩ := gLet_s h
        rw [← e47]
        clear e47
        refine J_aload_n (i := 0) (q := 1) (pc1 := 97) dX1_install_96 rfl rfl rfl ?_
        obtain ⟨μ49, hc48, h⟩ := gBp_s h
        refine J_callV (As := []) (ad := ad) (f := 12) (i := n0) (st := []) (st1 := []) (pc1 := 100) (kX1_findConfiguration l D tc sa ad nc hnc hI n0 hn0 μ46 μ49 hc48) wcX1_findConfiguration wlX1_40 (eC12 hn0) rfl rfl rfl ⟨rfl, rfl, Nat.le_of_ble_eq_true rfl, Nat.le_of_ble_eq_true rfl⟩ ⟨Nat.zero_le _, Nat.zero_le _⟩ (Nat.le_of_ble_eq_true rfl) dX1_install_97 rfl rfl ?_
        cases h
        exact J_vret hr hlk dX1_install_100
      refine J_if_eq (tgt := 49) (pc1 := 37) dX1_install_34 (by decide) (fun q35 => ?_) rfl (fun q35 => ?_)
      · rw [if_pos q35] at e33
        subst e33
        refine J_aload_n (i := 0) (q := 1) (pc1 := 50) dX1_install_49 rfl rfl rfl ?_
        refine J_getI (T := TX1) (pc1 := 53) (eC12 hn0) rfl rfl inX1 3 (by decide) rfl flX1_21 rfl dX1_install_50 rfl ?_
        exact k34
      · rw [if_neg q35] at e33
        subst e33
        refine J_aload_n (i := 1) (q := 2) (pc1 := 38) dX1_install_37 rfl rfl rfl ?_
        refine J_getI (T := TX2) (pc1 := 41) (eC19 ht1) rfl rfl inX2 10 (by decide) rfl flX1_75 rfl dX1_install_38 rfl ?_
        refine J_aload_n (i := 0) (q := 1) (pc1 := 42) dX1_install_41 rfl rfl rfl ?_
        refine J_getI (T := TX1) (pc1 := 45) (eC12 hn0) rfl rfl inX1 4 (by decide) rfl flX1_25 rfl dX1_install_42 rfl ?_
        refine J_isub (pc1 := 46) dX1_install_45 rfl ?_
        refine J_goto (tgt := 53) dX1_install_46 (by decide) ?_
        exact k34
    refine J_icmp_ne (tgt := 30) (pc1 := 26) dX1_install_23 (by decide) (fun q31 => ?_) rfl (fun q31 => ?_)
    · rw [if_neg q31] at e29
      subst e29
      refine J_iconst (v := 0) (pc1 := 31) dX1_install_30 (by decide) rfl ?_
      exact k30
    · rw [if_pos q31] at e29
      subst e29
      refine J_iconst (v := 1) (pc1 := 27) dX1_install_26 (by decide) rfl ?_
      refine J_goto (tgt := 31) dX1_install_27 (by decide) ?_
      exact k30
def mX1_isJoint (nc : Nat) (n0 : Nat) (μ : gM) : Option Int32 :=
  if (μ 12 n0 10) = 0 then
    some 0
  else
    some 1
set_option maxHeartbeats 4000000 in
set_option maxRecDepth 100000 in
theorem kX1_isJoint (l : Launch) (D : va_G) (tc : Nat → ClassId) (sa : Nat → Nat) (ad : Nat → Nat → Nat) (nc : Nat) (hnc : 0 < nc ∧ nc ≤ 2) (hI : gI (gE_C nc) ad) (n0 : Nat) (hn0 : n0 < 5 * nc) (μ : gM) (r : Int32) (h : mX1_isJoint nc n0 μ = some r) : gMet l yX1_isJoint cX1_isJoint 1 (some .boolean) ({ frames := 0, cells := 0, slots := 0, locals := 0 } : Room) D (gE_C nc) gkd_C tc ad (grh_C nc) sa [.ref (ad 12 n0)] μ (some (.int r)) μ := by
  refine gMet_of hI ⟨by decide +kernel, Nat.le_of_ble_eq_true rfl⟩ (fun p e s m args below meth c sz hr hlk => ?_)
  unfold mX1_isJoint at h
  show JC p l e ({ frames := 0, cells := 0, slots := 0, locals := 0 } : Room) s m args below meth c cX1_isJoint 1 RX1 D tc sa ad nc sz (some (.int r)) μ μ 0 [(0, .ref (ad 12 n0))] []
  refine J_aload_n (i := 0) (q := 0) (pc1 := 1) dX1_isJoint_0 rfl rfl rfl ?_
  refine J_getI (T := TX1) (pc1 := 4) (eC12 hn0) rfl rfl inX1 10 (by decide) rfl flX1_101 rfl dX1_isJoint_1 rfl ?_
  refine J_if_eq (tgt := 11) (pc1 := 7) dX1_isJoint_4 (by decide) (fun q1 => ?_) rfl (fun q1 => ?_)
  · rw [if_pos q1] at h
    refine J_iconst (v := 0) (pc1 := 12) dX1_isJoint_11 (by decide) rfl ?_
    cases h
    exact J_zret (by decide) hr hlk dX1_isJoint_12
  · rw [if_neg q1] at h
    refine J_iconst (v := 1) (pc1 := 8) dX1_isJoint_7 (by decide) rfl ?_
    refine J_goto (tgt := 12) dX1_isJoint_8 (by decide) ?_
    cases h
    exact J_zret (by decide) hr hlk dX1_isJoint_12
def mX1_isMember (nc : Nat) (n0 : Nat) (a1 : Int32) (μ : gM) : Option Int32 :=
  if ((((μ 12 n0 10) ||| (μ 12 n0 11)) >>> (a1 &&& 31)) &&& 1) = 1 then
    some 1
  else
    some 0
set_option maxHeartbeats 4000000 in
set_option maxRecDepth 100000 in
theorem kX1_isMember (l : Launch) (D : va_G) (tc : Nat → ClassId) (sa : Nat → Nat) (ad : Nat → Nat → Nat) (nc : Nat) (hnc : 0 < nc ∧ nc ≤ 2) (hI : gI (gE_C nc) ad) (n0 : Nat) (hn0 : n0 < 5 * nc) (a1 : Int32) (μ : gM) (r : Int32) (h : mX1_isMember nc n0 a1 μ = some r) : gMet l yX1_isMember cX1_isMember 2 (some .boolean) ({ frames := 0, cells := 0, slots := 0, locals := 0 } : Room) D (gE_C nc) gkd_C tc ad (grh_C nc) sa [.ref (ad 12 n0), .int a1] μ (some (.int r)) μ := by
  refine gMet_of hI ⟨by decide +kernel, Nat.le_of_ble_eq_true rfl⟩ (fun p e s m args below meth c sz hr hlk => ?_)
  unfold mX1_isMember at h
  show JC p l e ({ frames := 0, cells := 0, slots := 0, locals := 0 } : Room) s m args below meth c cX1_isMember 2 RX1 D tc sa ad nc sz (some (.int r)) μ μ 0 [(0, .ref (ad 12 n0)), (1, .int a1)] []
  refine J_aload_n (i := 0) (q := 0) (pc1 := 1) dX1_isMember_0 rfl rfl rfl ?_
  refine J_getI (T := TX1) (pc1 := 4) (eC12 hn0) rfl rfl inX1 10 (by decide) rfl flX1_101 rfl dX1_isMember_1 rfl ?_
  refine J_aload_n (i := 0) (q := 0) (pc1 := 5) dX1_isMember_4 rfl rfl rfl ?_
  refine J_getI (T := TX1) (pc1 := 8) (eC12 hn0) rfl rfl inX1 11 (by decide) rfl flX1_102 rfl dX1_isMember_5 rfl ?_
  refine J_ior (pc1 := 9) dX1_isMember_8 rfl ?_
  refine J_iload_n (i := 1) (q := 1) (pc1 := 10) dX1_isMember_9 rfl rfl rfl ?_
  refine J_ishr (pc1 := 11) dX1_isMember_10 rfl ?_
  refine J_iconst (v := 1) (pc1 := 12) dX1_isMember_11 (by decide) rfl ?_
  refine J_iand (pc1 := 13) dX1_isMember_12 rfl ?_
  refine J_iconst (v := 1) (pc1 := 14) dX1_isMember_13 (by decide) rfl ?_
  refine J_icmp_ne (tgt := 21) (pc1 := 17) dX1_isMember_14 (by decide) (fun q1 => ?_) rfl (fun q1 => ?_)
  · rw [if_neg q1] at h
    refine J_iconst (v := 0) (pc1 := 22) dX1_isMember_21 (by decide) rfl ?_
    cases h
    exact J_zret (by decide) hr hlk dX1_isMember_22
  · rw [if_pos q1] at h
    refine J_iconst (v := 1) (pc1 := 18) dX1_isMember_17 (by decide) rfl ?_
    refine J_goto (tgt := 22) dX1_isMember_18 (by decide) ?_
    cases h
    exact J_zret (by decide) hr hlk dX1_isMember_22
def mX1_isFull (nc : Nat) (n0 : Nat) (μ : gM) : Option Int32 :=
  if (μ 12 n0 3) < 24 then
    some 0
  else
    some 1
set_option maxHeartbeats 4000000 in
set_option maxRecDepth 100000 in
theorem kX1_isFull (l : Launch) (D : va_G) (tc : Nat → ClassId) (sa : Nat → Nat) (ad : Nat → Nat → Nat) (nc : Nat) (hnc : 0 < nc ∧ nc ≤ 2) (hI : gI (gE_C nc) ad) (n0 : Nat) (hn0 : n0 < 5 * nc) (μ : gM) (r : Int32) (h : mX1_isFull nc n0 μ = some r) : gMet l yX1_isFull cX1_isFull 1 (some .boolean) ({ frames := 0, cells := 0, slots := 0, locals := 0 } : Room) D (gE_C nc) gkd_C tc ad (grh_C nc) sa [.ref (ad 12 n0)] μ (some (.int r)) μ := by
  refine gMet_of hI ⟨by decide +kernel, Nat.le_of_ble_eq_true rfl⟩ (fun p e s m args below meth c sz hr hlk => ?_)
  unfold mX1_isFull at h
  show JC p l e ({ frames := 0, cells := 0, slots := 0, locals := 0 } : Room) s m args below meth c cX1_isFull 1 RX1 D tc sa ad nc sz (some (.int r)) μ μ 0 [(0, .ref (ad 12 n0))] []
  refine J_aload_n (i := 0) (q := 0) (pc1 := 1) dX1_isFull_0 rfl rfl rfl ?_
  refine J_getI (T := TX1) (pc1 := 4) (eC12 hn0) rfl rfl inX1 3 (by decide) rfl flX1_21 rfl dX1_isFull_1 rfl ?_
  refine J_bipush (v := 24) (pc1 := 6) dX1_isFull_4 (by decide) rfl ?_
  refine J_icmp_lt (tgt := 13) (pc1 := 9) dX1_isFull_6 (by decide) (fun q1 => ?_) rfl (fun q1 => ?_)
  · rw [if_pos q1] at h
    refine J_iconst (v := 0) (pc1 := 14) dX1_isFull_13 (by decide) rfl ?_
    cases h
    exact J_zret (by decide) hr hlk dX1_isFull_14
  · rw [if_neg q1] at h
    refine J_iconst (v := 1) (pc1 := 10) dX1_isFull_9 (by decide) rfl ?_
    refine J_goto (tgt := 14) dX1_isFull_10 (by decide) ?_
    cases h
    exact J_zret (by decide) hr hlk dX1_isFull_14
def mX1_kindAt (nc : Nat) (n0 : Nat) (a1 : Int32) (μ : gM) : Option Int32 :=
  gBp (mX1_partAt nc n0 17 n0 a1 3 μ) fun r2 =>
  some r2
set_option maxHeartbeats 4000000 in
set_option maxRecDepth 100000 in
theorem kX1_kindAt (l : Launch) (D : va_G) (tc : Nat → ClassId) (sa : Nat → Nat) (ad : Nat → Nat → Nat) (nc : Nat) (hnc : 0 < nc ∧ nc ≤ 2) (hI : gI (gE_C nc) ad) (n0 : Nat) (hn0 : n0 < 5 * nc) (a1 : Int32) (μ : gM) (r : Int32) (h : mX1_kindAt nc n0 a1 μ = some r) : gMet l yX1_kindAt cX1_kindAt 2 (some .int) ({ frames := 1, cells := 0, slots := 0, locals := 24 } : Room) D (gE_C nc) gkd_C tc ad (grh_C nc) sa [.ref (ad 12 n0), .int a1] μ (some (.int r)) μ := by
  refine gMet_of hI ⟨by decide +kernel, Nat.le_of_ble_eq_true rfl⟩ (fun p e s m args below meth c sz hr hlk => ?_)
  unfold mX1_kindAt at h
  show JC p l e ({ frames := 1, cells := 0, slots := 0, locals := 24 } : Room) s m args below meth c cX1_kindAt 2 RX1 D tc sa ad nc sz (some (.int r)) μ μ 0 [(0, .ref (ad 12 n0)), (1, .int a1)] []
  refine J_aload_n (i := 0) (q := 0) (pc1 := 1) dX1_kindAt_0 rfl rfl rfl ?_
  refine J_aload_n (i := 0) (q := 0) (pc1 := 2) dX1_kindAt_1 rfl rfl rfl ?_
  refine J_getR (T := TX1) (f' := 17) (i' := n0) (pc1 := 5) (eC12 hn0) rfl rfl inX1 1 (by decide) rfl rfl flX1_15 rfl dX1_kindAt_2 rfl ?_
  refine J_iload_n (i := 1) (q := 1) (pc1 := 6) dX1_kindAt_5 rfl rfl rfl ?_
  refine J_iconst (v := 3) (pc1 := 7) dX1_kindAt_6 (by decide) rfl ?_
  obtain ⟨r2, hc1, h⟩ := gBp_s h
  refine J_callV (As := [.ref (ad 17 n0), .int a1, .int 3]) (ad := ad) (f := 12) (i := n0) (st := []) (st1 := [.int r2]) (pc1 := 10) (kX1_partAt l D tc sa ad nc hnc hI n0 hn0 17 n0 (eC17 hn0) rfl a1 3 μ r2 hc1) wcX1_partAt wlX1_49 (eC12 hn0) rfl rfl rfl ⟨rfl, rfl, Nat.le_of_ble_eq_true rfl, Nat.le_of_ble_eq_true rfl⟩ ⟨Nat.zero_le _, Nat.zero_le _⟩ (Nat.le_of_ble_eq_true rfl) dX1_kindAt_7 rfl rfl ?_
  cases h
  exact J_iret hr hlk dX1_kindAt_10
def mX1_valueAt (nc : Nat) (n0 : Nat) (a1 : Int32) (μ : gM) : Option Int32 :=
  gBp (mX1_partAt nc n0 18 n0 a1 0 μ) fun r2 =>
  some r2
set_option maxHeartbeats 4000000 in
set_option maxRecDepth 100000 in
theorem kX1_valueAt (l : Launch) (D : va_G) (tc : Nat → ClassId) (sa : Nat → Nat) (ad : Nat → Nat → Nat) (nc : Nat) (hnc : 0 < nc ∧ nc ≤ 2) (hI : gI (gE_C nc) ad) (n0 : Nat) (hn0 : n0 < 5 * nc) (a1 : Int32) (μ : gM) (r : Int32) (h : mX1_valueAt nc n0 a1 μ = some r) : gMet l yX1_valueAt cX1_valueAt 2 (some .int) ({ frames := 1, cells := 0, slots := 0, locals := 24 } : Room) D (gE_C nc) gkd_C tc ad (grh_C nc) sa [.ref (ad 12 n0), .int a1] μ (some (.int r)) μ := by
  refine gMet_of hI ⟨by decide +kernel, Nat.le_of_ble_eq_true rfl⟩ (fun p e s m args below meth c sz hr hlk => ?_)
  unfold mX1_valueAt at h
  show JC p l e ({ frames := 1, cells := 0, slots := 0, locals := 24 } : Room) s m args below meth c cX1_valueAt 2 RX1 D tc sa ad nc sz (some (.int r)) μ μ 0 [(0, .ref (ad 12 n0)), (1, .int a1)] []
  refine J_aload_n (i := 0) (q := 0) (pc1 := 1) dX1_valueAt_0 rfl rfl rfl ?_
  refine J_aload_n (i := 0) (q := 0) (pc1 := 2) dX1_valueAt_1 rfl rfl rfl ?_
  refine J_getR (T := TX1) (f' := 18) (i' := n0) (pc1 := 5) (eC12 hn0) rfl rfl inX1 2 (by decide) rfl rfl flX1_18 rfl dX1_valueAt_2 rfl ?_
  refine J_iload_n (i := 1) (q := 1) (pc1 := 6) dX1_valueAt_5 rfl rfl rfl ?_
  refine J_iconst (v := 0) (pc1 := 7) dX1_valueAt_6 (by decide) rfl ?_
  obtain ⟨r2, hc1, h⟩ := gBp_s h
  refine J_callV (As := [.ref (ad 18 n0), .int a1, .int 0]) (ad := ad) (f := 12) (i := n0) (st := []) (st1 := [.int r2]) (pc1 := 10) (kX1_partAt l D tc sa ad nc hnc hI n0 hn0 18 n0 (eC18 hn0) rfl a1 0 μ r2 hc1) wcX1_partAt wlX1_49 (eC12 hn0) rfl rfl rfl ⟨rfl, rfl, Nat.le_of_ble_eq_true rfl, Nat.le_of_ble_eq_true rfl⟩ ⟨Nat.zero_le _, Nat.zero_le _⟩ (Nat.le_of_ble_eq_true rfl) dX1_valueAt_7 rfl rfl ?_
  cases h
  exact J_iret hr hlk dX1_valueAt_10
def mX1_resultAt (nc : Nat) (n0 : Nat) (a1 : Int32) (μ : gM) : Option Int32 :=
  gLet (α := Int32) (μ 12 n0 6) fun x1 =>
  gJon (fun (x5 : Int32) =>
      some x5) fun j6 =>
  gFx2 (fun rec9 (x7 : Int32) (x8 : Int32) =>
      if (μ 12 n0 3) ≤ x8 then
        j6 x7
      else
        if 24 ≤ x8 then
          j6 x7
        else
          if (a1 - (μ 12 n0 4)) ≤ x8 then
            j6 x7
          else
            gChk (inb x8 24) <|
            if (μ 17 n0 (x8.toNatClampNeg)) = 0 then
              gChk (inb x8 24) <|
              gLet (α := Int32) ((31 * x7) + (μ 18 n0 (x8.toNatClampNeg))) fun x16 =>
              rec9 x16 (x8 + 1)
            else
              rec9 x7 (x8 + 1)) 1000000 x1 0
set_option maxHeartbeats 4000000 in
set_option maxRecDepth 100000 in
theorem kX1_resultAt (l : Launch) (D : va_G) (tc : Nat → ClassId) (sa : Nat → Nat) (ad : Nat → Nat → Nat) (nc : Nat) (hnc : 0 < nc ∧ nc ≤ 2) (hI : gI (gE_C nc) ad) (n0 : Nat) (hn0 : n0 < 5 * nc) (a1 : Int32) (μ : gM) (r : Int32) (h : mX1_resultAt nc n0 a1 μ = some r) : gMet l yX1_resultAt cX1_resultAt 4 (some .int) ({ frames := 0, cells := 0, slots := 0, locals := 0 } : Room) D (gE_C nc) gkd_C tc ad (grh_C nc) sa [.ref (ad 12 n0), .int a1] μ (some (.int r)) μ := by
  refine gMet_of hI ⟨by decide +kernel, Nat.le_of_ble_eq_true rfl⟩ (fun p e s m args below meth c sz hr hlk => ?_)
  unfold mX1_resultAt at h
  show JC p l e ({ frames := 0, cells := 0, slots := 0, locals := 0 } : Room) s m args below meth c cX1_resultAt 4 RX1 D tc sa ad nc sz (some (.int r)) μ μ 0 [(0, .ref (ad 12 n0)), (1, .int a1)] []
  refine J_aload_n (i := 0) (q := 0) (pc1 := 1) dX1_resultAt_0 rfl rfl rfl ?_
  refine J_getI (T := TX1) (pc1 := 4) (eC12 hn0) rfl rfl inX1 6 (by decide) rfl flX1_31 rfl dX1_resultAt_1 rfl ?_
  obtain ⟨x1, e3, h⟩ := gLet_s h
  refine J_top (fun y2 e4 => ?_)
  have e4x : x1 = y2 := (e4.trans e3.symm).symm
  subst e4x
  refine J_istore_n (i := 2) (lv1 := [(2, .int x1), (0, .ref (ad 12 n0)), (1, .int a1)]) (pc1 := 5) dX1_resultAt_4 rfl (by decide) rfl rfl ?_
  refine J_iconst (v := 0) (pc1 := 6) dX1_resultAt_5 (by decide) rfl ?_
  refine J_istore_n (i := 3) (lv1 := [(3, .int 0), (2, .int x1), (0, .ref (ad 12 n0)), (1, .int a1)]) (pc1 := 7) dX1_resultAt_6 rfl (by decide) rfl rfl ?_
  obtain ⟨j6, ej6, h⟩ := gJon_s h
  have kj6 : ∀ (x5 : Int32), j6 x5 = some r → JC p l e ({ frames := 0, cells := 0, slots := 0, locals := 0 } : Room) s m args below meth c cX1_resultAt 4 RX1 D tc sa ad nc sz (some (.int r)) μ μ 58 [(2, .int x5)] [] := by
    intro x5 h
    rw [ej6] at h
    try dsimp only at h
    refine J_iload_n (i := 2) (q := 0) (pc1 := 59) dX1_resultAt_58 rfl rfl rfl ?_
    cases h
    exact J_iret hr hlk dX1_resultAt_59
  clear ej6
  refine J_sub [2, 3, 1, 0] (lv1 := [(0, .ref (ad 12 n0)), (1, .int a1), (2, .int x1), (3, .int 0)]) rfl ?_
  refine gFx2_s (P := fun x7 x8 => JC p l e ({ frames := 0, cells := 0, slots := 0, locals := 0 } : Room) s m args below meth c cX1_resultAt 4 RX1 D tc sa ad nc sz (some (.int r)) μ μ 7 [(0, .ref (ad 12 n0)), (1, .int a1), (2, .int x7), (3, .int x8)] []) (fun rec9 ihrec9 x7 x8 h => ?_) _ _ _ h
  try dsimp only at h
  refine J_iload_n (i := 3) (q := 3) (pc1 := 8) dX1_resultAt_7 rfl rfl rfl ?_
  refine J_aload_n (i := 0) (q := 0) (pc1 := 9) dX1_resultAt_8 rfl rfl rfl ?_
  refine J_getI (T := TX1) (pc1 := 12) (eC12 hn0) rfl rfl inX1 3 (by decide) rfl flX1_21 rfl dX1_resultAt_9 rfl ?_
  refine J_icmp_ge (tgt := 58) (pc1 := 15) dX1_resultAt_12 (by decide) (fun q10 => ?_) rfl (fun q10 => ?_)
  · rw [if_pos q10] at h
    refine J_sub [2] (lv1 := [(2, .int x7)]) rfl ?_
    exact kj6 _ h
  · rw [if_neg q10] at h
    refine J_iload_n (i := 3) (q := 3) (pc1 := 16) dX1_resultAt_15 rfl rfl rfl ?_
    refine J_bipush (v := 24) (pc1 := 18) dX1_resultAt_16 (by decide) rfl ?_
    refine J_icmp_ge (tgt := 58) (pc1 := 21) dX1_resultAt_18 (by decide) (fun q11 => ?_) rfl (fun q11 => ?_)
    · rw [if_pos q11] at h
      refine J_sub [2] (lv1 := [(2, .int x7)]) rfl ?_
      exact kj6 _ h
    · rw [if_neg q11] at h
      refine J_iload_n (i := 3) (q := 3) (pc1 := 22) dX1_resultAt_21 rfl rfl rfl ?_
      refine J_iload_n (i := 1) (q := 1) (pc1 := 23) dX1_resultAt_22 rfl rfl rfl ?_
      refine J_aload_n (i := 0) (q := 0) (pc1 := 24) dX1_resultAt_23 rfl rfl rfl ?_
      refine J_getI (T := TX1) (pc1 := 27) (eC12 hn0) rfl rfl inX1 4 (by decide) rfl flX1_25 rfl dX1_resultAt_24 rfl ?_
      refine J_isub (pc1 := 28) dX1_resultAt_27 rfl ?_
      refine J_icmp_ge (tgt := 58) (pc1 := 31) dX1_resultAt_28 (by decide) (fun q12 => ?_) rfl (fun q12 => ?_)
      · rw [if_pos q12] at h
        refine J_sub [2] (lv1 := [(2, .int x7)]) rfl ?_
        exact kj6 _ h
      · rw [if_neg q12] at h
        refine J_aload_n (i := 0) (q := 0) (pc1 := 32) dX1_resultAt_31 rfl rfl rfl ?_
        refine J_getR (T := TX1) (f' := 17) (i' := n0) (pc1 := 35) (eC12 hn0) rfl rfl inX1 1 (by decide) rfl rfl flX1_15 rfl dX1_resultAt_32 rfl ?_
        refine J_iload_n (i := 3) (q := 3) (pc1 := 36) dX1_resultAt_35 rfl rfl rfl ?_
        obtain ⟨h13, h⟩ := gChk_s h
        refine J_iald (ix := (x8.toNatClampNeg)) (pc1 := 37) rfl (eC17 hn0) rfl h13 dX1_resultAt_36 rfl ?_
        refine J_if_ne (tgt := 52) (pc1 := 40) dX1_resultAt_37 (by decide) (fun q14 => ?_) rfl (fun q14 => ?_)
        · rw [if_neg q14] at h
          refine J_iinc (i := 3) (q := 3) (v := x8 + 1) (lv1 := [(3, .int (x8 + 1)), (0, .ref (ad 12 n0)), (1, .int a1), (2, .int x7)]) (pc1 := 55) dX1_resultAt_52 rfl rfl (by decide) rfl rfl ?_
          refine J_goto (tgt := 7) dX1_resultAt_55 (by decide) ?_
          refine J_sub [1, 2, 3, 0] (lv1 := [(0, .ref (ad 12 n0)), (1, .int a1), (2, .int x7), (3, .int (x8 + 1))]) rfl ?_
          exact ihrec9 _ _ h
        · rw [if_pos q14] at h
          refine J_bipush (v := 31) (pc1 := 42) dX1_resultAt_40 (by decide) rfl ?_
          refine J_iload_n (i := 2) (q := 2) (pc1 := 43) dX1_resultAt_42 rfl rfl rfl ?_
          refine J_imul (pc1 := 44) dX1_resultAt_43 rfl ?_
          refine J_aload_n (i := 0) (q := 0) (pc1 := 45) dX1_resultAt_44 rfl rfl rfl ?_
          refine J_getR (T := TX1) (f' := 18) (i' := n0) (pc1 := 48) (eC12 hn0) rfl rfl inX1 2 (by decide) rfl rfl flX1_18 rfl dX1_resultAt_45 rfl ?_
          refine J_iload_n (i := 3) (q := 3) (pc1 := 49) dX1_resultAt_48 rfl rfl rfl ?_
          obtain ⟨h15, h⟩ := gChk_s h
          refine J_iald (ix := (x8.toNatClampNeg)) (pc1 := 50) rfl (eC18 hn0) rfl h15 dX1_resultAt_49 rfl ?_
          refine J_iadd (pc1 := 51) dX1_resultAt_50 rfl ?_
          obtain ⟨x16, e18, h⟩ := gLet_s h
          refine J_top (fun y17 e19 => ?_)
          have e19x : x16 = y17 := (e19.trans e18.symm).symm
          subst e19x
          refine J_istore_n (i := 2) (lv1 := [(2, .int x16), (0, .ref (ad 12 n0)), (1, .int a1), (3, .int x8)]) (pc1 := 52) dX1_resultAt_51 rfl (by decide) rfl rfl ?_
          refine J_iinc (i := 3) (q := 3) (v := x8 + 1) (lv1 := [(3, .int (x8 + 1)), (2, .int x16), (0, .ref (ad 12 n0)), (1, .int a1)]) (pc1 := 55) dX1_resultAt_52 rfl rfl (by decide) rfl rfl ?_
          refine J_goto (tgt := 7) dX1_resultAt_55 (by decide) ?_
          refine J_sub [2, 3, 1, 0] (lv1 := [(0, .ref (ad 12 n0)), (1, .int a1), (2, .int x16), (3, .int (x8 + 1))]) rfl ?_
          exact ihrec9 _ _ h
def mX1_packTo (nc : Nat) (n0 : Nat) (a1 : Int32) (μ : gM) : Option (Int32 × gM) :=
  gLet (α := Int32) (a1 - (μ 12 n0 4)) fun x1 =>
  if x1 ≤ 0 then
    some (0, μ)
  else
    if x1 ≤ (μ 12 n0 3) then
      gBp (mX1_resultAt nc n0 a1 μ) fun r8 =>
      gLet (α := gM) (w3 μ 12 n0 6 r8) fun μ9 =>
      gBp (mX1_termAt nc n0 a1 μ9) fun r12 =>
      gLet (α := gM) (w3 μ9 12 n0 5 r12) fun μ13 =>
      gJon (fun (μ15 : gM) =>
          gLet (α := gM) (w3 μ15 12 n0 4 a1) fun μ17 =>
          gBp (mX1_dropFirst nc n0 x1 μ17) fun μ20 =>
          gBp (mX1_findConfiguration nc n0 μ20) fun μ22 =>
          some (x1, μ22)) fun j16 =>
      gFx2 (fun rec25 (x23 : Int32) (μ24 : gM) =>
          if x1 ≤ x23 then
            j16 μ24
          else
            if 24 ≤ x23 then
              j16 μ24
            else
              gBp (mX1_isConfiguration nc n0 x23 μ24) fun r29 =>
              if r29 = 0 then
                rec25 (x23 + 1) μ24
              else
                gChk (inb x23 24) <|
                gLet (α := gM) (w3 μ24 12 n0 7 ((μ24 18 n0 (x23.toNatClampNeg)) / 32)) fun μ32 =>
                gChk (inb x23 24) <|
                gLet (α := gM) (w3 μ32 12 n0 8 ((μ32 18 n0 (x23.toNatClampNeg)) - (μ32 18 n0 (x23.toNatClampNeg)) / 32 * 32)) fun μ35 =>
                rec25 (x23 + 1) μ35) 1000000 0 μ13
    else
      some (0, μ)
set_option maxHeartbeats 4000000 in
set_option maxRecDepth 100000 in
theorem kX1_packTo (l : Launch) (D : va_G) (tc : Nat → ClassId) (sa : Nat → Nat) (ad : Nat → Nat → Nat) (nc : Nat) (hnc : 0 < nc ∧ nc ≤ 2) (hI : gI (gE_C nc) ad) (n0 : Nat) (hn0 : n0 < 5 * nc) (a1 : Int32) (μ : gM) (r : Int32) (μ' : gM) (h : mX1_packTo nc n0 a1 μ = some (r, μ')) : gMet l yX1_packTo cX1_packTo 4 (some .int) ({ frames := 2, cells := 0, slots := 0, locals := 101 } : Room) D (gE_C nc) gkd_C tc ad (grh_C nc) sa [.ref (ad 12 n0), .int a1] μ (some (.int r)) μ' := by
  refine gMet_of hI ⟨by decide +kernel, Nat.le_of_ble_eq_true rfl⟩ (fun p e s m args below meth c sz hr hlk => ?_)
  unfold mX1_packTo at h
  show JC p l e ({ frames := 2, cells := 0, slots := 0, locals := 101 } : Room) s m args below meth c cX1_packTo 4 RX1 D tc sa ad nc sz (some (.int r)) μ' μ 0 [(0, .ref (ad 12 n0)), (1, .int a1)] []
  refine J_iload_n (i := 1) (q := 1) (pc1 := 1) dX1_packTo_0 rfl rfl rfl ?_
  refine J_aload_n (i := 0) (q := 0) (pc1 := 2) dX1_packTo_1 rfl rfl rfl ?_
  refine J_getI (T := TX1) (pc1 := 5) (eC12 hn0) rfl rfl inX1 4 (by decide) rfl flX1_25 rfl dX1_packTo_2 rfl ?_
  refine J_isub (pc1 := 6) dX1_packTo_5 rfl ?_
  obtain ⟨x1, e3, h⟩ := gLet_s h
  refine J_top (fun y2 e4 => ?_)
  have e4x : x1 = y2 := (e4.trans e3.symm).symm
  subst e4x
  refine J_istore_n (i := 2) (lv1 := [(2, .int x1), (0, .ref (ad 12 n0)), (1, .int a1)]) (pc1 := 7) dX1_packTo_6 rfl (by decide) rfl rfl ?_
  refine J_iload_n (i := 2) (q := 0) (pc1 := 8) dX1_packTo_7 rfl rfl rfl ?_
  refine J_if_le (tgt := 19) (pc1 := 11) dX1_packTo_8 (by decide) (fun q5 => ?_) rfl (fun q5 => ?_)
  · rw [if_pos q5] at h
    refine J_iconst (v := 0) (pc1 := 20) dX1_packTo_19 (by decide) rfl ?_
    cases h
    exact J_iret hr hlk dX1_packTo_20
  · rw [if_neg q5] at h
    refine J_iload_n (i := 2) (q := 0) (pc1 := 12) dX1_packTo_11 rfl rfl rfl ?_
    refine J_aload_n (i := 0) (q := 1) (pc1 := 13) dX1_packTo_12 rfl rfl rfl ?_
    refine J_getI (T := TX1) (pc1 := 16) (eC12 hn0) rfl rfl inX1 3 (by decide) rfl flX1_21 rfl dX1_packTo_13 rfl ?_
    refine J_icmp_le (tgt := 21) (pc1 := 19) dX1_packTo_16 (by decide) (fun q6 => ?_) rfl (fun q6 => ?_)
    · rw [if_pos q6] at h
      refine J_aload_n (i := 0) (q := 1) (pc1 := 22) dX1_packTo_21 rfl rfl rfl ?_
      refine J_aload_n (i := 0) (q := 1) (pc1 := 23) dX1_packTo_22 rfl rfl rfl ?_
      refine J_iload_n (i := 1) (q := 2) (pc1 := 24) dX1_packTo_23 rfl rfl rfl ?_
      obtain ⟨r8, hc7, h⟩ := gBp_s h
      refine J_callV (As := [.int a1]) (ad := ad) (f := 12) (i := n0) (st := [.ref (ad 12 n0)]) (st1 := [.int r8, .ref (ad 12 n0)]) (pc1 := 27) (kX1_resultAt l D tc sa ad nc hnc hI n0 hn0 a1 μ r8 hc7) wcX1_resultAt wlX1_64 (eC12 hn0) rfl rfl rfl ⟨rfl, rfl, Nat.le_of_ble_eq_true rfl, Nat.le_of_ble_eq_true rfl⟩ ⟨Nat.zero_le _, Nat.zero_le _⟩ (Nat.le_of_ble_eq_true rfl) dX1_packTo_24 rfl rfl ?_
      refine J_putI (T := TX1) (pc1 := 30) (eC12 hn0) rfl rfl inX1 tyX1 tyX1_ok nmX1 6 (by decide) rfl (fun _ _ _ _ => gh12) flX1_31 rfl rfl rfl rfl dX1_packTo_27 rfl ?_
      obtain ⟨μ9, e10, h⟩ := gLet_s h
      rw [← e10]
      clear e10
      refine J_aload_n (i := 0) (q := 1) (pc1 := 31) dX1_packTo_30 rfl rfl rfl ?_
      refine J_aload_n (i := 0) (q := 1) (pc1 := 32) dX1_packTo_31 rfl rfl rfl ?_
      refine J_iload_n (i := 1) (q := 2) (pc1 := 33) dX1_packTo_32 rfl rfl rfl ?_
      obtain ⟨r12, hc11, h⟩ := gBp_s h
      refine J_callV (As := [.int a1]) (ad := ad) (f := 12) (i := n0) (st := [.ref (ad 12 n0)]) (st1 := [.int r12, .ref (ad 12 n0)]) (pc1 := 36) (kX1_termAt l D tc sa ad nc hnc hI n0 hn0 a1 μ9 r12 hc11) wcX1_termAt wlX1_60 (eC12 hn0) rfl rfl rfl ⟨rfl, rfl, Nat.le_of_ble_eq_true rfl, Nat.le_of_ble_eq_true rfl⟩ ⟨Nat.zero_le _, Nat.zero_le _⟩ (Nat.le_of_ble_eq_true rfl) dX1_packTo_33 rfl rfl ?_
      refine J_putI (T := TX1) (pc1 := 39) (eC12 hn0) rfl rfl inX1 tyX1 tyX1_ok nmX1 5 (by decide) rfl (fun _ _ _ _ => gh12) flX1_28 rfl rfl rfl rfl dX1_packTo_36 rfl ?_
      obtain ⟨μ13, e14, h⟩ := gLet_s h
      rw [← e14]
      clear e14
      refine J_iconst (v := 0) (pc1 := 40) dX1_packTo_39 (by decide) rfl ?_
      refine J_istore_n (i := 3) (lv1 := [(3, .int 0), (2, .int x1), (0, .ref (ad 12 n0)), (1, .int a1)]) (pc1 := 41) dX1_packTo_40 rfl (by decide) rfl rfl ?_
      obtain ⟨j16, ej16, h⟩ := gJon_s h
      have kj16 : ∀ (μ15 : gM), j16 μ15 = some (r, μ') → JC p l e ({ frames := 2, cells := 0, slots := 0, locals := 101 } : Room) s m args below meth c cX1_packTo 4 RX1 D tc sa ad nc sz (some (.int r)) μ' μ15 92 [(0, .ref (ad 12 n0)), (1, .int a1), (2, .int x1)] [] := by
        intro μ15 h
        rw [ej16] at h
        try dsimp only at h
        refine J_aload_n (i := 0) (q := 0) (pc1 := 93) dX1_packTo_92 rfl rfl rfl ?_
        refine J_iload_n (i := 1) (q := 1) (pc1 := 94) dX1_packTo_93 rfl rfl rfl ?_
        refine J_putI (T := TX1) (pc1 := 97) (eC12 hn0) rfl rfl inX1 tyX1 tyX1_ok nmX1 4 (by decide) rfl (fun _ _ _ _ => gh12) flX1_25 rfl rfl rfl rfl dX1_packTo_94 rfl ?_
        obtain ⟨μ17, e18, h⟩ := gLet_s h
        rw [← e18]
        clear e18
        refine J_aload_n (i := 0) (q := 0) (pc1 := 98) dX1_packTo_97 rfl rfl rfl ?_
        refine J_iload_n (i := 2) (q := 2) (pc1 := 99) dX1_packTo_98 rfl rfl rfl ?_
        obtain ⟨μ20, hc19, h⟩ := gBp_s h
        refine J_callV (As := [.int x1]) (ad := ad) (f := 12) (i := n0) (st := []) (st1 := []) (pc1 := 102) (kX1_dropFirst l D tc sa ad nc hnc hI n0 hn0 x1 μ17 μ20 hc19) wcX1_dropFirst wlX1_71 (eC12 hn0) rfl rfl rfl ⟨rfl, rfl, Nat.le_of_ble_eq_true rfl, Nat.le_of_ble_eq_true rfl⟩ ⟨Nat.zero_le _, Nat.zero_le _⟩ (Nat.le_of_ble_eq_true rfl) dX1_packTo_99 rfl rfl ?_
        refine J_aload_n (i := 0) (q := 0) (pc1 := 103) dX1_packTo_102 rfl rfl rfl ?_
        obtain ⟨μ22, hc21, h⟩ := gBp_s h
        refine J_callV (As := []) (ad := ad) (f := 12) (i := n0) (st := []) (st1 := []) (pc1 := 106) (kX1_findConfiguration l D tc sa ad nc hnc hI n0 hn0 μ20 μ22 hc21) wcX1_findConfiguration wlX1_40 (eC12 hn0) rfl rfl rfl ⟨rfl, rfl, Nat.le_of_ble_eq_true rfl, Nat.le_of_ble_eq_true rfl⟩ ⟨Nat.zero_le _, Nat.zero_le _⟩ (Nat.le_of_ble_eq_true rfl) dX1_packTo_103 rfl rfl ?_
        refine J_iload_n (i := 2) (q := 2) (pc1 := 107) dX1_packTo_106 rfl rfl rfl ?_
        cases h
        exact J_iret hr hlk dX1_packTo_107
      clear ej16
      refine J_sub [2, 3, 1, 0] (lv1 := [(0, .ref (ad 12 n0)), (1, .int a1), (2, .int x1), (3, .int 0)]) rfl ?_
      refine gFx2_s (P := fun x23 μ24 => JC p l e ({ frames := 2, cells := 0, slots := 0, locals := 101 } : Room) s m args below meth c cX1_packTo 4 RX1 D tc sa ad nc sz (some (.int r)) μ' μ24 41 [(0, .ref (ad 12 n0)), (1, .int a1), (2, .int x1), (3, .int x23)] []) (fun rec25 ihrec25 x23 μ24 h => ?_) _ _ _ h
      try dsimp only at h
      refine J_iload_n (i := 3) (q := 3) (pc1 := 42) dX1_packTo_41 rfl rfl rfl ?_
      refine J_iload_n (i := 2) (q := 2) (pc1 := 43) dX1_packTo_42 rfl rfl rfl ?_
      refine J_icmp_ge (tgt := 92) (pc1 := 46) dX1_packTo_43 (by decide) (fun q26 => ?_) rfl (fun q26 => ?_)
      · rw [if_pos q26] at h
        refine J_sub [0, 1, 2] (lv1 := [(0, .ref (ad 12 n0)), (1, .int a1), (2, .int x1)]) rfl ?_
        exact kj16 _ h
      · rw [if_neg q26] at h
        refine J_iload_n (i := 3) (q := 3) (pc1 := 47) dX1_packTo_46 rfl rfl rfl ?_
        refine J_bipush (v := 24) (pc1 := 49) dX1_packTo_47 (by decide) rfl ?_
        refine J_icmp_ge (tgt := 92) (pc1 := 52) dX1_packTo_49 (by decide) (fun q27 => ?_) rfl (fun q27 => ?_)
        · rw [if_pos q27] at h
          refine J_sub [0, 1, 2] (lv1 := [(0, .ref (ad 12 n0)), (1, .int a1), (2, .int x1)]) rfl ?_
          exact kj16 _ h
        · rw [if_neg q27] at h
          refine J_aload_n (i := 0) (q := 0) (pc1 := 53) dX1_packTo_52 rfl rfl rfl ?_
          refine J_iload_n (i := 3) (q := 3) (pc1 := 54) dX1_packTo_53 rfl rfl rfl ?_
          obtain ⟨r29, hc28, h⟩ := gBp_s h
          refine J_callV (As := [.int x23]) (ad := ad) (f := 12) (i := n0) (st := []) (st1 := [.int r29]) (pc1 := 57) (kX1_isConfiguration l D tc sa ad nc hnc hI n0 hn0 x23 μ24 r29 hc28) wcX1_isConfiguration wlX1_67 (eC12 hn0) rfl rfl rfl ⟨rfl, rfl, Nat.le_of_ble_eq_true rfl, Nat.le_of_ble_eq_true rfl⟩ ⟨Nat.zero_le _, Nat.zero_le _⟩ (Nat.le_of_ble_eq_true rfl) dX1_packTo_54 rfl rfl ?_
          refine J_if_eq (tgt := 86) (pc1 := 60) dX1_packTo_57 (by decide) (fun q30 => ?_) rfl (fun q30 => ?_)
          · rw [if_pos q30] at h
            refine J_iinc (i := 3) (q := 3) (v := x23 + 1) (lv1 := [(3, .int (x23 + 1)), (0, .ref (ad 12 n0)), (1, .int a1), (2, .int x1)]) (pc1 := 89) dX1_packTo_86 rfl rfl (by decide) rfl rfl ?_
            refine J_goto (tgt := 41) dX1_packTo_89 (by decide) ?_
            refine J_sub [1, 2, 3, 0] (lv1 := [(0, .ref (ad 12 n0)), (1, .int a1), (2, .int x1), (3, .int (x23 + 1))]) rfl ?_
            exact ihrec25 _ _ h
          · rw [if_neg q30] at h
            refine J_aload_n (i := 0) (q := 0) (pc1 := 61) dX1_packTo_60 rfl rfl rfl ?_
            refine J_aload_n (i := 0) (q := 0) (pc1 := 62) dX1_packTo_61 rfl rfl rfl ?_
            refine J_getR (T := TX1) (f' := 18) (i' := n0) (pc1 := 65) (eC12 hn0) rfl rfl inX1 2 (by decide) rfl rfl flX1_18 rfl dX1_packTo_62 rfl ?_
            refine J_iload_n (i := 3) (q := 3) (pc1 := 66) dX1_packTo_65 rfl rfl rfl ?_
            obtain ⟨h31, h⟩ := gChk_s h
            refine J_iald (ix := (x23.toNatClampNeg)) (pc1 := 67) rfl (eC18 hn0) rfl h31 dX1_packTo_66 rfl ?_
            refine J_bipush (v := 32) (pc1 := 69) dX1_packTo_67 (by decide) rfl ?_
            refine J_idiv (pc1 := 70) dX1_packTo_69 (by decide) rfl ?_
            refine J_putI (T := TX1) (pc1 := 73) (eC12 hn0) rfl rfl inX1 tyX1 tyX1_ok nmX1 7 (by decide) rfl (fun _ _ _ _ => gh12) flX1_34 rfl rfl rfl rfl dX1_packTo_70 rfl ?_
            obtain ⟨μ32, e33, h⟩ := gLet_s h
            rw [← e33]
            clear e33
            refine J_aload_n (i := 0) (q := 0) (pc1 := 74) dX1_packTo_73 rfl rfl rfl ?_
            refine J_aload_n (i := 0) (q := 0) (pc1 := 75) dX1_packTo_74 rfl rfl rfl ?_
            refine J_getR (T := TX1) (f' := 18) (i' := n0) (pc1 := 78) (eC12 hn0) rfl rfl inX1 2 (by decide) rfl rfl flX1_18 rfl dX1_packTo_75 rfl ?_
            refine J_iload_n (i := 3) (q := 3) (pc1 := 79) dX1_packTo_78 rfl rfl rfl ?_
            obtain ⟨h34, h⟩ := gChk_s h
            refine J_iald (ix := (x23.toNatClampNeg)) (pc1 := 80) rfl (eC18 hn0) rfl h34 dX1_packTo_79 rfl ?_
            refine J_bipush (v := 32) (pc1 := 82) dX1_packTo_80 (by decide) rfl ?_
            refine J_irem (pc1 := 83) dX1_packTo_82 (by decide) rfl ?_
            refine J_putI (T := TX1) (pc1 := 86) (eC12 hn0) rfl rfl inX1 tyX1 tyX1_ok nmX1 8 (by decide) rfl (fun _ _ _ _ => gh12) flX1_37 rfl rfl rfl rfl dX1_packTo_83 rfl ?_
            obtain ⟨μ35, e36, h⟩ := gLet_s h
            rw [← e36]
            clear e36
            refine J_iinc (i := 3) (q := 3) (v := x23 + 1) (lv1 := [(3, .int (x23 + 1)), (0, .ref (ad 12 n0)), (1, .int a1), (2, .int x1)]) (pc1 := 89) dX1_packTo_86 rfl rfl (by decide) rfl rfl ?_
            refine J_goto (tgt := 41) dX1_packTo_89 (by decide) ?_
            refine J_sub [1, 2, 3, 0] (lv1 := [(0, .ref (ad 12 n0)), (1, .int a1), (2, .int x1), (3, .int (x23 + 1))]) rfl ?_
            exact ihrec25 _ _ h
    · rw [if_neg q6] at h
      refine J_iconst (v := 0) (pc1 := 20) dX1_packTo_19 (by decide) rfl ?_
      cases h
      exact J_iret hr hlk dX1_packTo_20
def mX1_members (nc : Nat) (n0 : Nat) (μ : gM) : Option Int32 :=
  some ((μ 12 n0 10) ||| (μ 12 n0 11))
set_option maxHeartbeats 4000000 in
set_option maxRecDepth 100000 in
theorem kX1_members (l : Launch) (D : va_G) (tc : Nat → ClassId) (sa : Nat → Nat) (ad : Nat → Nat → Nat) (nc : Nat) (hnc : 0 < nc ∧ nc ≤ 2) (hI : gI (gE_C nc) ad) (n0 : Nat) (hn0 : n0 < 5 * nc) (μ : gM) (r : Int32) (h : mX1_members nc n0 μ = some r) : gMet l yX1_members cX1_members 1 (some .int) ({ frames := 0, cells := 0, slots := 0, locals := 0 } : Room) D (gE_C nc) gkd_C tc ad (grh_C nc) sa [.ref (ad 12 n0)] μ (some (.int r)) μ := by
  refine gMet_of hI ⟨by decide +kernel, Nat.le_of_ble_eq_true rfl⟩ (fun p e s m args below meth c sz hr hlk => ?_)
  unfold mX1_members at h
  show JC p l e ({ frames := 0, cells := 0, slots := 0, locals := 0 } : Room) s m args below meth c cX1_members 1 RX1 D tc sa ad nc sz (some (.int r)) μ μ 0 [(0, .ref (ad 12 n0))] []
  refine J_aload_n (i := 0) (q := 0) (pc1 := 1) dX1_members_0 rfl rfl rfl ?_
  refine J_getI (T := TX1) (pc1 := 4) (eC12 hn0) rfl rfl inX1 10 (by decide) rfl flX1_101 rfl dX1_members_1 rfl ?_
  refine J_aload_n (i := 0) (q := 0) (pc1 := 5) dX1_members_4 rfl rfl rfl ?_
  refine J_getI (T := TX1) (pc1 := 8) (eC12 hn0) rfl rfl inX1 11 (by decide) rfl flX1_102 rfl dX1_members_5 rfl ?_
  refine J_ior (pc1 := 9) dX1_members_8 rfl ?_
  cases h
  exact J_iret hr hlk dX1_members_9
def mX2_detail (nc : Nat) (t0 : Nat) (μ : gM) : Option Int32 :=
  if (μ 19 t0 4) = 1 then
    if (μ 19 t0 12) = 0 then
      some 0
    else
      some 1
  else if (μ 19 t0 4) = 2 then
    some (μ 19 t0 3)
  else if (μ 19 t0 4) = 3 then
    if (μ 19 t0 12) = 0 then
      some 0
    else
      some 1
  else 
    some (μ 19 t0 11)
set_option maxHeartbeats 4000000 in
set_option maxRecDepth 100000 in
theorem kX2_detail (l : Launch) (D : va_G) (tc : Nat → ClassId) (sa : Nat → Nat) (ad : Nat → Nat → Nat) (nc : Nat) (hnc : 0 < nc ∧ nc ≤ 2) (hI : gI (gE_C nc) ad) (t0 : Nat) (ht0 : t0 < 42 * nc) (μ : gM) (r : Int32) (h : mX2_detail nc t0 μ = some r) : gMet l yX2_detail cX2_detail 1 (some .int) ({ frames := 0, cells := 0, slots := 0, locals := 0 } : Room) D (gE_C nc) gkd_C tc ad (grh_C nc) sa [.ref (ad 19 t0)] μ (some (.int r)) μ := by
  refine gMet_of hI ⟨by decide +kernel, Nat.le_of_ble_eq_true rfl⟩ (fun p e s m args below meth c sz hr hlk => ?_)
  unfold mX2_detail at h
  show JC p l e ({ frames := 0, cells := 0, slots := 0, locals := 0 } : Room) s m args below meth c cX2_detail 1 RX2 D tc sa ad nc sz (some (.int r)) μ μ 0 [(0, .ref (ad 19 t0))] []
  refine J_aload_n (i := 0) (q := 0) (pc1 := 1) dX2_detail_0 rfl rfl rfl ?_
  refine J_getI (T := TX2) (pc1 := 4) (eC19 ht0) rfl rfl inX2 4 (by decide) rfl flX2_53 rfl dX2_detail_1 rfl ?_
  by_cases q1 : (μ 19 t0 4) = 1
  · rw [if_pos q1] at h
    refine J_swIn (v := 1) (off := 28) (tgt := 32) dX2_detail_4 q1 (by decide) ?_
    refine J_aload_n (i := 0) (q := 0) (pc1 := 33) dX2_detail_32 rfl rfl rfl ?_
    refine J_getI (T := TX2) (pc1 := 36) (eC19 ht0) rfl rfl inX2 12 (by decide) rfl flX2_31 rfl dX2_detail_33 rfl ?_
    refine J_if_eq (tgt := 43) (pc1 := 39) dX2_detail_36 (by decide) (fun q2 => ?_) rfl (fun q2 => ?_)
    · rw [if_pos q2] at h
      refine J_iconst (v := 0) (pc1 := 44) dX2_detail_43 (by decide) rfl ?_
      cases h
      exact J_iret hr hlk dX2_detail_44
    · rw [if_neg q2] at h
      refine J_iconst (v := 1) (pc1 := 40) dX2_detail_39 (by decide) rfl ?_
      refine J_goto (tgt := 44) dX2_detail_40 (by decide) ?_
      cases h
      exact J_iret hr hlk dX2_detail_44
  rw [if_neg q1] at h
  by_cases q3 : (μ 19 t0 4) = 2
  · rw [if_pos q3] at h
    refine J_swIn (v := 2) (off := 41) (tgt := 45) dX2_detail_4 q3 (by decide) ?_
    refine J_aload_n (i := 0) (q := 0) (pc1 := 46) dX2_detail_45 rfl rfl rfl ?_
    refine J_getI (T := TX2) (pc1 := 49) (eC19 ht0) rfl rfl inX2 3 (by decide) rfl flX2_21 rfl dX2_detail_46 rfl ?_
    cases h
    exact J_iret hr hlk dX2_detail_49
  rw [if_neg q3] at h
  by_cases q4 : (μ 19 t0 4) = 3
  · rw [if_pos q4] at h
    refine J_swIn (v := 3) (off := 28) (tgt := 32) dX2_detail_4 q4 (by decide) ?_
    refine J_aload_n (i := 0) (q := 0) (pc1 := 33) dX2_detail_32 rfl rfl rfl ?_
    refine J_getI (T := TX2) (pc1 := 36) (eC19 ht0) rfl rfl inX2 12 (by decide) rfl flX2_31 rfl dX2_detail_33 rfl ?_
    refine J_if_eq (tgt := 43) (pc1 := 39) dX2_detail_36 (by decide) (fun q5 => ?_) rfl (fun q5 => ?_)
    · rw [if_pos q5] at h
      refine J_iconst (v := 0) (pc1 := 44) dX2_detail_43 (by decide) rfl ?_
      cases h
      exact J_iret hr hlk dX2_detail_44
    · rw [if_neg q5] at h
      refine J_iconst (v := 1) (pc1 := 40) dX2_detail_39 (by decide) rfl ?_
      refine J_goto (tgt := 44) dX2_detail_40 (by decide) ?_
      cases h
      exact J_iret hr hlk dX2_detail_44
  rw [if_neg q4] at h
  refine J_swOut (tgt := 50) dX2_detail_4 (by have := i32_ne (k := 1) q1 (by decide); have := i32_ne (k := 2) q3 (by decide); have := i32_ne (k := 3) q4 (by decide); omega) (by decide) ?_
  refine J_aload_n (i := 0) (q := 0) (pc1 := 51) dX2_detail_50 rfl rfl rfl ?_
  refine J_getI (T := TX2) (pc1 := 54) (eC19 ht0) rfl rfl inX2 11 (by decide) rfl flX2_28 rfl dX2_detail_51 rfl ?_
  cases h
  exact J_iret hr hlk dX2_detail_54
