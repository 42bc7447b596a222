theorem flX3_25 : Cond.fieldLink RX3 25 "QuorumLog$Network" "count" "I" ∈ BIG := bigT2 (i := 26) rfl rfl
theorem flX3_29 : Cond.fieldLink RX3 29 "QuorumLog$Network" "cuts" "I" ∈ BIG := bigT2 (i := 29) rfl rfl
theorem flX3_32 : Cond.fieldLink RX3 32 "QuorumLog$Network" "delay" "I" ∈ BIG := bigT2 (i := 30) rfl rfl
theorem flX3_35 : Cond.fieldLink RX3 35 "QuorumLog$Network" "sent" "I" ∈ BIG := bigT2 (i := 33) rfl rfl
theorem flX3_38 : Cond.fieldLink RX3 38 "QuorumLog$Network" "lost" "I" ∈ BIG := bigT2 (i := 35) rfl rfl
theorem flX4_18 : Cond.fieldLink RX4 18 "QuorumLog$Replica" "log" "LQuorumLog$Log;" ∈ BIG := bigT1 (i := 105) rfl rfl
theorem wlX4_32 : Cond.methodLink RX4 32 yX1_clear ∈ BIG := bigT2 (i := 166) rfl rfl
theorem imX1_clear : Cond.instanceMethod yX1_clear ∈ BIG := bigT2 (i := 167) rfl rfl
theorem seX1_clear : Cond.selects yX1_clear.cls yX1_clear yX1_clear ∈ BIG := bigT2 (i := 168) rfl rfl
theorem cdX1_clear : Cond.code yX1_clear cX1_clear 2 (none) ∈ BIG := bigT2 (i := 169) rfl rfl
theorem wcX1_clear : wCv yX1_clear cX1_clear 2 (none) 1 := ⟨⟨imX1_clear, seX1_clear, iniX1, cdX1_clear⟩, by decide +kernel⟩
theorem flX4_36 : Cond.fieldLink RX4 36 "QuorumLog$Replica" "isUp" "Z" ∈ BIG := bigT1 (i := 117) rfl rfl
theorem flX4_40 : Cond.fieldLink RX4 40 "QuorumLog$Replica" "role" "I" ∈ BIG := bigT1 (i := 120) rfl rfl
theorem flX4_43 : Cond.fieldLink RX4 43 "QuorumLog$Replica" "term" "I" ∈ BIG := bigT1 (i := 123) rfl rfl
theorem flX4_46 : Cond.fieldLink RX4 46 "QuorumLog$Replica" "vote" "I" ∈ BIG := bigT1 (i := 126) rfl rfl
theorem flX4_49 : Cond.fieldLink RX4 49 "QuorumLog$Replica" "commit" "I" ∈ BIG := bigT1 (i := 129) rfl rfl
theorem flX4_52 : Cond.fieldLink RX4 52 "QuorumLog$Replica" "voters" "I" ∈ BIG := bigT1 (i := 135) rfl rfl
theorem iniX3 : Cond.initialized RX3 ∈ BIG := bigT1 (i := 5) rfl rfl
theorem iniX4 : Cond.initialized RX4 ∈ BIG := bigT1 (i := 3) rfl rfl
theorem flX3_11 : Cond.fieldLink RX3 11 "QuorumLog$Network" "rows" "[LQuorumLog$Message;" ∈ BIG := bigT2 (i := 20) rfl rfl
theorem wlX3_41 : Cond.methodLink RX3 41 yX2_copyFrom ∈ BIG := bigT2 (i := 215) rfl rfl
theorem imX2_copyFrom : Cond.instanceMethod yX2_copyFrom ∈ BIG := bigT2 (i := 216) rfl rfl
theorem seX2_copyFrom : Cond.selects yX2_copyFrom.cls yX2_copyFrom yX2_copyFrom ∈ BIG := bigT2 (i := 217) rfl rfl
theorem iniX2 : Cond.initialized RX2 ∈ BIG := bigT1 (i := 6) rfl rfl
theorem cdX2_copyFrom : Cond.code yX2_copyFrom cX2_copyFrom 2 (none) ∈ BIG := bigT2 (i := 218) rfl rfl
theorem wcX2_copyFrom : wCv yX2_copyFrom cX2_copyFrom 2 (none) 1 := ⟨⟨imX2_copyFrom, seX2_copyFrom, iniX2, cdX2_copyFrom⟩, by decide +kernel⟩
theorem wlX4_55 : Cond.methodLink RX4 55 yX1_copyFrom ∈ BIG := bigT2 (i := 224) rfl rfl
theorem imX1_copyFrom : Cond.instanceMethod yX1_copyFrom ∈ BIG := bigT2 (i := 225) rfl rfl
theorem seX1_copyFrom : Cond.selects yX1_copyFrom.cls yX1_copyFrom yX1_copyFrom ∈ BIG := bigT2 (i := 226) rfl rfl
theorem cdX1_copyFrom : Cond.code yX1_copyFrom cX1_copyFrom 2 (none) ∈ BIG := bigT2 (i := 227) rfl rfl
theorem wcX1_copyFrom : wCv yX1_copyFrom cX1_copyFrom 2 (none) 1 := ⟨⟨imX1_copyFrom, seX1_copyFrom, iniX1, cdX1_copyFrom⟩, by decide +kernel⟩
theorem flX4_22 : Cond.fieldLink RX4 22 "QuorumLog$Replica" "next" "[I" ∈ BIG := bigT1 (i := 108) rfl rfl
theorem wlX4_59 : Cond.methodLink RX4 59 arraycopyName ∈ BIG := bigT2 (i := 229) rfl rfl
theorem flX4_26 : Cond.fieldLink RX4 26 "QuorumLog$Replica" "match" "[I" ∈ BIG := bigT1 (i := 111) rfl rfl
theorem flX4_29 : Cond.fieldLink RX4 29 "QuorumLog$Replica" "echo" "[I" ∈ BIG := bigT1 (i := 114) rfl rfl
theorem flX4_65 : Cond.fieldLink RX4 65 "QuorumLog$Replica" "timer" "I" ∈ BIG := bigT1 (i := 132) rfl rfl
theorem flX3_45 : Cond.fieldLink RX3 45 "QuorumLog$Message" "due" "I" ∈ BIG := bigT1 (i := 203) rfl rfl
theorem flX3_22 : Cond.fieldLink RX3 22 "QuorumLog$Network" "taken" "LQuorumLog$Message;" ∈ BIG := bigT2 (i := 24) rfl rfl
theorem flX3_18 : Cond.fieldLink RX3 18 "QuorumLog$Network" "draft" "LQuorumLog$Message;" ∈ BIG := bigT2 (i := 22) rfl rfl
theorem flX3_48 : Cond.fieldLink RX3 48 "QuorumLog$Message" "sender" "I" ∈ BIG := bigT1 (i := 193) rfl rfl
theorem flX3_51 : Cond.fieldLink RX3 51 "QuorumLog$Message" "receiver" "I" ∈ BIG := bigT1 (i := 197) rfl rfl
theorem wlX3_54 : Cond.methodLink RX3 54 yX3_isCut ∈ BIG := bigT3 (i := 141) rfl rfl
theorem imX3_isCut : Cond.instanceMethod yX3_isCut ∈ BIG := bigT3 (i := 142) rfl rfl
theorem seX3_isCut : Cond.selects yX3_isCut.cls yX3_isCut yX3_isCut ∈ BIG := bigT3 (i := 143) rfl rfl
theorem cdX3_isCut : Cond.code yX3_isCut cX3_isCut 3 (some .boolean) ∈ BIG := bigT3 (i := 144) rfl rfl
theorem wcX3_isCut : wCv yX3_isCut cX3_isCut 3 (some .boolean) 2 := ⟨⟨imX3_isCut, seX3_isCut, iniX3, cdX3_isCut⟩, by decide +kernel⟩
theorem imX1_isQuorum : Cond.instanceMethod yX1_isQuorum ∈ BIG := bigT3 (i := 150) rfl rfl
theorem seX1_isQuorum : Cond.selects yX1_isQuorum.cls yX1_isQuorum yX1_isQuorum ∈ BIG := bigT3 (i := 151) rfl rfl
theorem cdX1_isQuorum : Cond.code yX1_isQuorum cX1_isQuorum 2 (some .boolean) ∈ BIG := bigT3 (i := 152) rfl rfl
theorem wcX1_isQuorum : wCv yX1_isQuorum cX1_isQuorum 2 (some .boolean) 1 := ⟨⟨imX1_isQuorum, seX1_isQuorum, iniX1, cdX1_isQuorum⟩, by decide +kernel⟩
theorem wlX4_68 : Cond.methodLink RX4 68 yX1_lastIndex ∈ BIG := bigT3 (i := 235) rfl rfl
theorem flX4_9 : Cond.fieldLink RX4 9 "QuorumLog$Replica" "id" "I" ∈ BIG := bigT1 (i := 103) rfl rfl
theorem flX4_76 : Cond.fieldLink RX4 76 "QuorumLog$Log" "configurationIndex" "I" ∈ BIG := bigT1 (i := 70) rfl rfl
theorem wlX4_72 : Cond.methodLink RX4 72 yX1_isMember ∈ BIG := bigT4 (i := 16) rfl rfl
theorem imX1_isMember : Cond.instanceMethod yX1_isMember ∈ BIG := bigT4 (i := 17) rfl rfl
theorem seX1_isMember : Cond.selects yX1_isMember.cls yX1_isMember yX1_isMember ∈ BIG := bigT4 (i := 18) rfl rfl
theorem cdX1_isMember : Cond.code yX1_isMember cX1_isMember 2 (some .boolean) ∈ BIG := bigT4 (i := 19) rfl rfl
theorem wcX1_isMember : wCv yX1_isMember cX1_isMember 2 (some .boolean) 1 := ⟨⟨imX1_isMember, seX1_isMember, iniX1, cdX1_isMember⟩, by decide +kernel⟩
theorem wlX4_79 : Cond.methodLink RX4 79 yX4_heardSince ∈ BIG := bigT4 (i := 211) rfl rfl
theorem imX4_heardSince : Cond.instanceMethod yX4_heardSince ∈ BIG := bigT4 (i := 213) rfl rfl
theorem seX4_heardSince : Cond.selects yX4_heardSince.cls yX4_heardSince yX4_heardSince ∈ BIG := bigS2 (i := 6) (q := (yX4_heardSince, 12)) rfl
theorem cdX4_heardSince : Cond.code yX4_heardSince cX4_heardSince 4 (some .int) ∈ BIG := bigT4 (i := 214) rfl rfl
theorem wcX4_heardSince : wCv yX4_heardSince cX4_heardSince 4 (some .int) 1 := ⟨⟨imX4_heardSince, seX4_heardSince, iniX4, cdX4_heardSince⟩, by decide +kernel⟩
theorem wlX4_83 : Cond.methodLink RX4 83 yX1_isQuorum ∈ BIG := bigT4 (i := 215) rfl rfl
theorem wlX4_86 : Cond.methodLink RX4 86 yX4_lease ∈ BIG := bigT4 (i := 207) rfl rfl
theorem imX4_lease : Cond.instanceMethod yX4_lease ∈ BIG := bigT4 (i := 208) rfl rfl
theorem seX4_lease : Cond.selects yX4_lease.cls yX4_lease yX4_lease ∈ BIG := bigT4 (i := 209) rfl rfl
theorem cdX4_lease : Cond.code yX4_lease cX4_lease 5 (some .int) ∈ BIG := bigT4 (i := 210) rfl rfl
theorem wcX4_lease : wCv yX4_lease cX4_lease 5 (some .int) 1 := ⟨⟨imX4_lease, seX4_lease, iniX4, cdX4_lease⟩, by decide +kernel⟩
theorem wlX4_89 : Cond.methodLink RX4 89 yX1_termAt ∈ BIG := bigT4 (i := 216) rfl rfl
theorem flX5_25 : Cond.fieldLink RX5 25 "QuorumLog$Script" "length" "I" ∈ BIG := bigT2 (i := 104) rfl rfl
theorem flX5_9 : Cond.fieldLink RX5 9 "QuorumLog$Script" "letters" "[C" ∈ BIG := bigT2 (i := 97) rfl rfl
theorem flX5_29 : Cond.fieldLink RX5 29 "QuorumLog$Script" "position" "I" ∈ BIG := bigT2 (i := 106) rfl rfl
theorem iniX5 : Cond.initialized RX5 ∈ BIG := bigT1 (i := 7) rfl rfl
theorem wlX5_36 : Cond.methodLink RX5 36 yX5_isBetween ∈ BIG := bigT5 (i := 148) rfl rfl
theorem imX5_isBetween : Cond.instanceMethod yX5_isBetween ∈ BIG := bigT5 (i := 150) rfl rfl
theorem seX5_isBetween : Cond.selects yX5_isBetween.cls yX5_isBetween yX5_isBetween ∈ BIG := bigS2 (i := 8) (q := (yX5_isBetween, 6)) rfl
theorem cdX5_isBetween : Cond.code yX5_isBetween cX5_isBetween 3 (some .boolean) ∈ BIG := bigT5 (i := 151) rfl rfl
theorem wcX5_isBetween : wCv yX5_isBetween cX5_isBetween 3 (some .boolean) 2 := ⟨⟨imX5_isBetween, seX5_isBetween, iniX5, cdX5_isBetween⟩, by decide +kernel⟩
def mX3_clear (nc : Nat) (q0 : Nat) (μ : gM) : Option gM :=
  gLet (α := gM) (w3 μ 9 q0 3 0) fun μ1 =>
  gLet (α := gM) (w3 μ1 9 q0 4 0) fun μ3 =>
  gLet (α := gM) (w3 μ3 9 q0 5 1) fun μ5 =>
  gLet (α := gM) (w3 μ5 9 q0 6 0) fun μ7 =>
  gLet (α := gM) (w3 μ7 9 q0 7 0) fun μ9 =>
  some μ9
set_option maxHeartbeats 4000000 in
set_option maxRecDepth 100000 in
theorem kX3_clear (l : Launch) (D : va_G) (tc : Nat → ClassId) (sa : Nat → Nat) (ad : Nat → Nat → Nat) (nc : Nat) (hnc : 0 < nc ∧ nc ≤ 2) (hI : gI (gE_C nc) ad) (q0 : Nat) (hq0 : q0 < nc) (μ : gM) (μ' : gM) (h : mX3_clear nc q0 μ = some μ') : gMet l yX3_clear cX3_clear 1 (none) ({ frames := 0, cells := 0, slots := 0, locals := 0 } : Room) D (gE_C nc) gkd_C tc ad (grh_C nc) sa [.ref (ad 9 q0)] μ (none) μ' := by
  refine gMet_of hI ⟨by decide +kernel, Nat.le_of_ble_eq_true rfl⟩ (fun p e s m args below meth c sz hr hlk => ?_)
  unfold mX3_clear at h
  show JC p l e ({ frames := 0, cells := 0, slots := 0, locals := 0 } : Room) s m args below meth c cX3_clear 1 RX3 D tc sa ad nc sz (none) μ' μ 0 [(0, .ref (ad 9 q0))] []
  refine J_aload_n (i := 0) (q := 0) (pc1 := 1) dX3_clear_0 rfl rfl rfl ?_
  refine J_iconst (v := 0) (pc1 := 2) dX3_clear_1 (by decide) rfl ?_
  refine J_putI (T := TX3) (pc1 := 5) (eC9 hq0) rfl rfl inX3 tyX3 tyX3_ok nmX3 3 (by decide) rfl (gHrl9 (by decide) (by decide)) flX3_25 rfl rfl rfl rfl dX3_clear_2 rfl ?_
  obtain ⟨μ1, e2, h⟩ := gLet_s h
  rw [← e2]
  clear e2
  refine J_aload_n (i := 0) (q := 0) (pc1 := 6) dX3_clear_5 rfl rfl rfl ?_
  refine J_iconst (v := 0) (pc1 := 7) dX3_clear_6 (by decide) rfl ?_
  refine J_putI (T := TX3) (pc1 := 10) (eC9 hq0) rfl rfl inX3 tyX3 tyX3_ok nmX3 4 (by decide) rfl (gHrl9 (by decide) (by decide)) flX3_29 rfl rfl rfl rfl dX3_clear_7 rfl ?_
  obtain ⟨μ3, e4, h⟩ := gLet_s h
  rw [← e4]
  clear e4
  refine J_aload_n (i := 0) (q := 0) (pc1 := 11) dX3_clear_10 rfl rfl rfl ?_
  refine J_iconst (v := 1) (pc1 := 12) dX3_clear_11 (by decide) rfl ?_
  refine J_putI (T := TX3) (pc1 := 15) (eC9 hq0) rfl rfl inX3 tyX3 tyX3_ok nmX3 5 (by decide) rfl (gHrl9 (by decide) (by decide)) flX3_32 rfl rfl rfl rfl dX3_clear_12 rfl ?_
  obtain ⟨μ5, e6, h⟩ := gLet_s h
  rw [← e6]
  clear e6
  refine J_aload_n (i := 0) (q := 0) (pc1 := 16) dX3_clear_15 rfl rfl rfl ?_
  refine J_iconst (v := 0) (pc1 := 17) dX3_clear_16 (by decide) rfl ?_
  refine J_putI (T := TX3) (pc1 := 20) (eC9 hq0) rfl rfl inX3 tyX3 tyX3_ok nmX3 6 (by decide) rfl (gHrl9 (by decide) (by decide)) flX3_35 rfl rfl rfl rfl dX3_clear_17 rfl ?_
  obtain ⟨μ7, e8, h⟩ := gLet_s h
  rw [← e8]
  clear e8
  refine J_aload_n (i := 0) (q := 0) (pc1 := 21) dX3_clear_20 rfl rfl rfl ?_
  refine J_iconst (v := 0) (pc1 := 22) dX3_clear_21 (by decide) rfl ?_
  refine J_putI (T := TX3) (pc1 := 25) (eC9 hq0) rfl rfl inX3 tyX3 tyX3_ok nmX3 7 (by decide) rfl (gHrl9 (by decide) (by decide)) flX3_38 rfl rfl rfl rfl dX3_clear_22 rfl ?_
  obtain ⟨μ9, e10, h⟩ := gLet_s h
  rw [← e10]
  clear e10
  cases h
  exact J_vret hr hlk dX3_clear_25
def mX4_clear (nc : Nat) (n0 : Nat) (a1 : Int32) (μ : gM) : Option gM :=
  gBp (mX1_clear nc n0 a1 μ) fun μ2 =>
  gLet (α := gM) (w3 μ2 11 n0 5 1) fun μ3 =>
  gLet (α := gM) (w3 μ3 11 n0 6 0) fun μ5 =>
  gLet (α := gM) (w3 μ5 11 n0 7 0) fun μ7 =>
  gLet (α := gM) (w3 μ7 11 n0 8 (-1)) fun μ9 =>
  gLet (α := gM) (w3 μ9 11 n0 9 0) fun μ11 =>
  gLet (α := gM) (w3 μ11 11 n0 11 0) fun μ13 =>
  some μ13
set_option maxHeartbeats 4000000 in
set_option maxRecDepth 100000 in
theorem kX4_clear (l : Launch) (D : va_G) (tc : Nat → ClassId) (sa : Nat → Nat) (ad : Nat → Nat → Nat) (nc : Nat) (hnc : 0 < nc ∧ nc ≤ 2) (hI : gI (gE_C nc) ad) (n0 : Nat) (hn0 : n0 < 5 * nc) (a1 : Int32) (μ : gM) (μ' : gM) (h : mX4_clear nc n0 a1 μ = some μ') : gMet l yX4_clear cX4_clear 2 (none) ({ frames := 3, cells := 0, slots := 0, locals := 63 } : Room) D (gE_C nc) gkd_C tc ad (grh_C nc) sa [.ref (ad 11 n0), .int a1] μ (none) μ' := by
  refine gMet_of hI ⟨by decide +kernel, Nat.le_of_ble_eq_true rfl⟩ (fun p e s m args below meth c sz hr hlk => ?_)
  unfold mX4_clear at h
  show JC p l e ({ frames := 3, cells := 0, slots := 0, locals := 63 } : Room) s m args below meth c cX4_clear 2 RX4 D tc sa ad nc sz (none) μ' μ 0 [(0, .ref (ad 11 n0)), (1, .int a1)] []
  refine J_aload_n (i := 0) (q := 0) (pc1 := 1) dX4_clear_0 rfl rfl rfl ?_
  refine J_getR (T := TX4) (f' := 12) (i' := n0) (pc1 := 4) (eC11 hn0) rfl rfl inX4 1 (by decide) rfl rfl flX4_18 rfl dX4_clear_1 rfl ?_
  refine J_iload_n (i := 1) (q := 1) (pc1 := 5) dX4_clear_4 rfl rfl rfl ?_
  obtain ⟨μ2, hc1, h⟩ := gBp_s h
  refine J_callV (As := [.int a1]) (ad := ad) (f := 12) (i := n0) (st := []) (st1 := []) (pc1 := 8) (kX1_clear l D tc sa ad nc hnc hI n0 hn0 a1 μ μ2 hc1) wcX1_clear wlX4_32 (eC12 hn0) rfl rfl rfl ⟨rfl, rfl, Nat.le_of_ble_eq_true rfl, Nat.le_of_ble_eq_true rfl⟩ ⟨Nat.zero_le _, Nat.zero_le _⟩ (Nat.le_of_ble_eq_true rfl) dX4_clear_5 rfl rfl ?_
  refine J_aload_n (i := 0) (q := 0) (pc1 := 9) dX4_clear_8 rfl rfl rfl ?_
  refine J_iconst (v := 1) (pc1 := 10) dX4_clear_9 (by decide) rfl ?_
  refine J_putI (T := TX4) (pc1 := 13) (eC11 hn0) rfl rfl inX4 tyX4 tyX4_ok nmX4 5 (by decide) rfl (fun _ _ _ _ => gh11) flX4_36 rfl rfl (by decide) (by decide) dX4_clear_10 rfl ?_
  obtain ⟨μ3, e4, h⟩ := gLet_s h
  rw [← e4]
  clear e4
  refine J_aload_n (i := 0) (q := 0) (pc1 := 14) dX4_clear_13 rfl rfl rfl ?_
  refine J_iconst (v := 0) (pc1 := 15) dX4_clear_14 (by decide) rfl ?_
  refine J_putI (T := TX4) (pc1 := 18) (eC11 hn0) rfl rfl inX4 tyX4 tyX4_ok nmX4 6 (by decide) rfl (fun _ _ _ _ => gh11) flX4_40 rfl rfl rfl rfl dX4_clear_15 rfl ?_
  obtain ⟨μ5, e6, h⟩ := gLet_s h
  rw [← e6]
  clear e6
  refine J_aload_n (i := 0) (q := 0) (pc1 := 19) dX4_clear_18 rfl rfl rfl ?_
  refine J_iconst (v := 0) (pc1 := 20) dX4_clear_19 (by decide) rfl ?_
  refine J_putI (T := TX4) (pc1 := 23) (eC11 hn0) rfl rfl inX4 tyX4 tyX4_ok nmX4 7 (by decide) rfl (fun _ _ _ _ => gh11) flX4_43 rfl rfl rfl rfl dX4_clear_20 rfl ?_
  obtain ⟨μ7, e8, h⟩ := gLet_s h
  rw [← e8]
  clear e8
  refine J_aload_n (i := 0) (q := 0) (pc1 := 24) dX4_clear_23 rfl rfl rfl ?_
  refine J_iconst (v := (-1)) (pc1 := 25) dX4_clear_24 (by decide) rfl ?_
  refine J_putI (T := TX4) (pc1 := 28) (eC11 hn0) rfl rfl inX4 tyX4 tyX4_ok nmX4 8 (by decide) rfl (fun _ _ _ _ => gh11) flX4_46 rfl rfl rfl rfl dX4_clear_25 rfl ?_
  obtain ⟨μ9, e10, h⟩ := gLet_s h
  rw [← e10]
  clear e10
  refine J_aload_n (i := 0) (q := 0) (pc1 := 29) dX4_clear_28 rfl rfl rfl ?_
  refine J_iconst (v := 0) (pc1 := 30) dX4_clear_29 (by decide) rfl ?_
  refine J_putI (T := TX4) (pc1 := 33) (eC11 hn0) rfl rfl inX4 tyX4 tyX4_ok nmX4 9 (by decide) rfl (fun _ _ _ _ => gh11) flX4_49 rfl rfl rfl rfl dX4_clear_30 rfl ?_
  obtain ⟨μ11, e12, h⟩ := gLet_s h
  rw [← e12]
  clear e12
  refine J_aload_n (i := 0) (q := 0) (pc1 := 34) dX4_clear_33 rfl rfl rfl ?_
  refine J_iconst (v := 0) (pc1 := 35) dX4_clear_34 (by decide) rfl ?_
  refine J_putI (T := TX4) (pc1 := 38) (eC11 hn0) rfl rfl inX4 tyX4 tyX4_ok nmX4 11 (by decide) rfl (fun _ _ _ _ => gh11) flX4_52 rfl rfl rfl rfl dX4_clear_35 rfl ?_
  obtain ⟨μ13, e14, h⟩ := gLet_s h
  rw [← e14]
  clear e14
  cases h
  exact J_vret hr hlk dX4_clear_38
def mX3_copyFrom (nc : Nat) (q0 : Nat) (q1 : Nat) (μ : gM) : Option gM :=
  gLet (α := gM) (w3 μ 9 q0 3 (μ 9 q1 3)) fun μ1 =>
  gLet (α := gM) (w3 μ1 9 q0 4 (μ1 9 q1 4)) fun μ3 =>
  gLet (α := gM) (w3 μ3 9 q0 5 (μ3 9 q1 5)) fun μ5 =>
  gLet (α := gM) (w3 μ5 9 q0 6 (μ5 9 q1 6)) fun μ7 =>
  gLet (α := gM) (w3 μ7 9 q0 7 (μ7 9 q1 7)) fun μ9 =>
  gJon (fun (μ11 : gM) =>
      some μ11) fun j12 =>
  gFx2 (fun rec15 (x13 : Int32) (μ14 : gM) =>
      if (μ14 9 q0 3) ≤ x13 then
        j12 μ14
      else
        if 40 ≤ x13 then
          j12 μ14
        else
          gChk (inb x13 40) <|
          gLet (α := Nat) ((μ14 10 q0 (x13.toNatClampNeg)).toNatClampNeg) fun t19 =>
          gChk (t19 < 42 * nc) <|
          gChk (inb x13 40) <|
          gLet (α := Nat) ((μ14 10 q1 (x13.toNatClampNeg)).toNatClampNeg) fun t23 =>
          gChk (t23 < 42 * nc) <|
          gBp (mX2_copyFrom nc t19 t23 μ14) fun μ27 =>
          rec15 (x13 + 1) μ27) 1000000 0 μ9
set_option maxHeartbeats 4000000 in
set_option maxRecDepth 100000 in
theorem kX3_copyFrom (l : Launch) (D : va_G) (tc : Nat → ClassId) (sa : Nat → Nat) (ad : Nat → Nat → Nat) (nc : Nat) (hnc : 0 < nc ∧ nc ≤ 2) (hI : gI (gE_C nc) ad) (q0 : Nat) (hq0 : q0 < nc) (q1 : Nat) (hq1 : q1 < nc) (μ : gM) (μ' : gM) (h : mX3_copyFrom nc q0 q1 μ = some μ') : gMet l yX3_copyFrom cX3_copyFrom 3 (none) ({ frames := 2, cells := 0, slots := 0, locals := 101 } : Room) D (gE_C nc) gkd_C tc ad (grh_C nc) sa [.ref (ad 9 q0), .ref (ad 9 q1)] μ (none) μ' := by
  refine gMet_of hI ⟨by decide +kernel, Nat.le_of_ble_eq_true rfl⟩ (fun p e s m args below meth c sz hr hlk => ?_)
  unfold mX3_copyFrom at h
  show JC p l e ({ frames := 2, cells := 0, slots := 0, locals := 101 } : Room) s m args below meth c cX3_copyFrom 3 RX3 D tc sa ad nc sz (none) μ' μ 0 [(0, .ref (ad 9 q0)), (1, .ref (ad 9 q1))] []
  refine J_aload_n (i := 0) (q := 0) (pc1 := 1) dX3_copyFrom_0 rfl rfl rfl ?_
  refine J_aload_n (i := 1) (q := 1) (pc1 := 2) dX3_copyFrom_1 rfl rfl rfl ?_
  refine J_getI (T := TX3) (pc1 := 5) (eC9 hq1) rfl rfl inX3 3 (by decide) rfl flX3_25 rfl dX3_copyFrom_2 rfl ?_
  refine J_putI (T := TX3) (pc1 := 8) (eC9 hq0) rfl rfl inX3 tyX3 tyX3_ok nmX3 3 (by decide) rfl (gHrl9 (by decide) (by decide)) flX3_25 rfl rfl rfl rfl dX3_copyFrom_5 rfl ?_
  obtain ⟨μ1, e2, h⟩ := gLet_s h
  rw [← e2]
  clear e2
  refine J_aload_n (i := 0) (q := 0) (pc1 := 9) dX3_copyFrom_8 rfl rfl rfl ?_
  refine J_aload_n (i := 1) (q := 1) (pc1 := 10) dX3_copyFrom_9 rfl rfl rfl ?_
  refine J_getI (T := TX3) (pc1 := 13) (eC9 hq1) rfl rfl inX3 4 (by decide) rfl flX3_29 rfl dX3_copyFrom_10 rfl ?_
  refine J_putI (T := TX3) (pc1 := 16) (eC9 hq0) rfl rfl inX3 tyX3 tyX3_ok nmX3 4 (by decide) rfl (gHrl9 (by decide) (by decide)) flX3_29 rfl rfl rfl rfl dX3_copyFrom_13 rfl ?_
  obtain ⟨μ3, e4, h⟩ := gLet_s h
  rw [← e4]
  clear e4
  refine J_aload_n (i := 0) (q := 0) (pc1 := 17) dX3_copyFrom_16 rfl rfl rfl ?_
  refine J_aload_n (i := 1) (q := 1) (pc1 := 18) dX3_copyFrom_17 rfl rfl rfl ?_
  refine J_getI (T := TX3) (pc1 := 21) (eC9 hq1) rfl rfl inX3 5 (by decide) rfl flX3_32 rfl dX3_copyFrom_18 rfl ?_
  refine J_putI (T := TX3) (pc1 := 24) (eC9 hq0) rfl rfl inX3 tyX3 tyX3_ok nmX3 5 (by decide) rfl (gHrl9 (by decide) (by decide)) flX3_32 rfl rfl rfl rfl dX3_copyFrom_21 rfl ?_
  obtain ⟨μ5, e6, h⟩ := gLet_s h
  rw [← e6]
  clear e6
  refine J_aload_n (i := 0) (q := 0) (pc1 := 25) dX3_copyFrom_24 rfl rfl rfl ?_
  refine J_aload_n (i := 1) (q := 1) (pc1 := 26) dX3_copyFrom_25 rfl rfl rfl ?_
  refine J_getI (T := TX3) (pc1 := 29) (eC9 hq1) rfl rfl inX3 6 (by decide) rfl flX3_35 rfl dX3_copyFrom_26 rfl ?_
  refine J_putI (T := TX3) (pc1 := 32) (eC9 hq0) rfl rfl inX3 tyX3 tyX3_ok nmX3 6 (by decide) rfl (gHrl9 (by decide) (by decide)) flX3_35 rfl rfl rfl rfl dX3_copyFrom_29 rfl ?_
  obtain ⟨μ7, e8, h⟩ := gLet_s h
  rw [← e8]
  clear e8
  refine J_aload_n (i := 0) (q := 0) (pc1 := 33) dX3_copyFrom_32 rfl rfl rfl ?_
  refine J_aload_n (i := 1) (q := 1) (pc1 := 34) dX3_copyFrom_33 rfl rfl rfl ?_
  refine J_getI (T := TX3) (pc1 := 37) (eC9 hq1) rfl rfl inX3 7 (by decide) rfl flX3_38 rfl dX3_copyFrom_34 rfl ?_
  refine J_putI (T := TX3) (pc1 := 40) (eC9 hq0) rfl rfl inX3 tyX3 tyX3_ok nmX3 7 (by decide) rfl (gHrl9 (by decide) (by decide)) flX3_38 rfl rfl rfl rfl dX3_copyFrom_37 rfl ?_
  obtain ⟨μ9, e10, h⟩ := gLet_s h
  rw [← e10]
  clear e10
  refine J_iconst (v := 0) (pc1 := 41) dX3_copyFrom_40 (by decide) rfl ?_
  refine J_istore_n (i := 2) (lv1 := [(2, .int 0), (0, .ref (ad 9 q0)), (1, .ref (ad 9 q1))]) (pc1 := 42) dX3_copyFrom_41 rfl (by decide) rfl rfl ?_
  obtain ⟨j12, ej12, h⟩ := gJon_s h
  have kj12 : ∀ (μ11 : gM), j12 μ11 = some μ' → JC p l e ({ frames := 2, cells := 0, slots := 0, locals := 101 } : Room) s m args below meth c cX3_copyFrom 3 RX3 D tc sa ad nc sz (none) μ' μ11 77 [] [] := by
    intro μ11 h
    rw [ej12] at h
    try dsimp only at h
    cases h
    exact J_vret hr hlk dX3_copyFrom_77
  clear ej12
  refine J_sub [1, 2, 0] (lv1 := [(0, .ref (ad 9 q0)), (1, .ref (ad 9 q1)), (2, .int 0)]) rfl ?_
  refine gFx2_s (P := fun x13 μ14 => JC p l e ({ frames := 2, cells := 0, slots := 0, locals := 101 } : Room) s m args below meth c cX3_copyFrom 3 RX3 D tc sa ad nc sz (none) μ' μ14 42 [(0, .ref (ad 9 q0)), (1, .ref (ad 9 q1)), (2, .int x13)] []) (fun rec15 ihrec15 x13 μ14 h => ?_) _ _ _ h
  try dsimp only at h
  refine J_iload_n (i := 2) (q := 2) (pc1 := 43) dX3_copyFrom_42 rfl rfl rfl ?_
  refine J_aload_n (i := 0) (q := 0) (pc1 := 44) dX3_copyFrom_43 rfl rfl rfl ?_
  refine J_getI (T := TX3) (pc1 := 47) (eC9 hq0) rfl rfl inX3 3 (by decide) rfl flX3_25 rfl dX3_copyFrom_44 rfl ?_
  refine J_icmp_ge (tgt := 77) (pc1 := 50) dX3_copyFrom_47 (by decide) (fun q16 => ?_) rfl (fun q16 => ?_)
  · rw [if_pos q16] at h
    refine J_sub [] (lv1 := []) rfl ?_
    exact kj12 _ h
  · rw [if_neg q16] at h
    refine J_iload_n (i := 2) (q := 2) (pc1 := 51) dX3_copyFrom_50 rfl rfl rfl ?_
    refine J_bipush (v := 40) (pc1 := 53) dX3_copyFrom_51 (by decide) rfl ?_
    refine J_icmp_ge (tgt := 77) (pc1 := 56) dX3_copyFrom_53 (by decide) (fun q17 => ?_) rfl (fun q17 => ?_)
    · rw [if_pos q17] at h
      refine J_sub [] (lv1 := []) rfl ?_
      exact kj12 _ h
    · rw [if_neg q17] at h
      refine J_aload_n (i := 0) (q := 0) (pc1 := 57) dX3_copyFrom_56 rfl rfl rfl ?_
      refine J_getR (T := TX3) (f' := 10) (i' := q0) (pc1 := 60) (eC9 hq0) rfl rfl inX3 0 (by decide) rfl rfl flX3_11 rfl dX3_copyFrom_57 rfl ?_
      refine J_iload_n (i := 2) (q := 2) (pc1 := 61) dX3_copyFrom_60 rfl rfl rfl ?_
      obtain ⟨h18, h⟩ := gChk_s h
      obtain ⟨t19, e20, h⟩ := gLet_s h
      obtain ⟨h21, h⟩ := gChk_s h
      refine J_aald (f' := 19) (i' := t19) (pc1 := 62) (eC10 hq0) rfl rfl h18 (by rw [e20]; rfl) dX3_copyFrom_61 rfl ?_
      refine J_aload_n (i := 1) (q := 1) (pc1 := 63) dX3_copyFrom_62 rfl rfl rfl ?_
      refine J_getR (T := TX3) (f' := 10) (i' := q1) (pc1 := 66) (eC9 hq1) rfl rfl inX3 0 (by decide) rfl rfl flX3_11 rfl dX3_copyFrom_63 rfl ?_
      refine J_iload_n (i := 2) (q := 2) (pc1 := 67) dX3_copyFrom_66 rfl rfl rfl ?_
      obtain ⟨h22, h⟩ := gChk_s h
      obtain ⟨t23, e24, h⟩ := gLet_s h
      obtain ⟨h25, h⟩ := gChk_s h
      refine J_aald (f' := 19) (i' := t23) (pc1 := 68) (eC10 hq1) rfl rfl h22 (by rw [e24]; rfl) dX3_copyFrom_67 rfl ?_
      obtain ⟨μ27, hc26, h⟩ := gBp_s h
      refine J_callV (As := [.ref (ad 19 t23)]) (ad := ad) (f := 19) (i := t19) (st := []) (st1 := []) (pc1 := 71) (kX2_copyFrom l D tc sa ad nc hnc hI t19 h21 t23 h25 μ14 μ27 hc26) wcX2_copyFrom wlX3_41 (eC19 h21) rfl rfl rfl ⟨rfl, rfl, Nat.le_of_ble_eq_true rfl, Nat.le_of_ble_eq_true rfl⟩ ⟨Nat.zero_le _, Nat.zero_le _⟩ (Nat.le_of_ble_eq_true rfl) dX3_copyFrom_68 rfl rfl ?_
      refine J_iinc (i := 2) (q := 2) (v := x13 + 1) (lv1 := [(2, .int (x13 + 1)), (0, .ref (ad 9 q0)), (1, .ref (ad 9 q1))]) (pc1 := 74) dX3_copyFrom_71 rfl rfl (by decide) rfl rfl ?_
      refine J_goto (tgt := 42) dX3_copyFrom_74 (by decide) ?_
      refine J_sub [1, 2, 0] (lv1 := [(0, .ref (ad 9 q0)), (1, .ref (ad 9 q1)), (2, .int (x13 + 1))]) rfl ?_
      exact ihrec15 _ _ h
def mX4_copyFrom (nc : Nat) (n0 : Nat) (n1 : Nat) (μ : gM) : Option gM :=
  gBp (mX1_copyFrom nc n0 n1 μ) fun μ2 =>
  gLet (α := gM) (cp3 μ2 13 n0 13 n1 0 0 5) fun μ3 =>
  gLet (α := gM) (cp3 μ3 14 n0 14 n1 0 0 5) fun μ5 =>
  gLet (α := gM) (cp3 μ5 15 n0 15 n1 0 0 5) fun μ7 =>
  gChk ((μ7 11 n1 5) = 0 ∨ (μ7 11 n1 5) = 1) <|
  gLet (α := gM) (w3 μ7 11 n0 5 (μ7 11 n1 5)) fun μ10 =>
  gLet (α := gM) (w3 μ10 11 n0 6 (μ10 11 n1 6)) fun μ12 =>
  gLet (α := gM) (w3 μ12 11 n0 7 (μ12 11 n1 7)) fun μ14 =>
  gLet (α := gM) (w3 μ14 11 n0 8 (μ14 11 n1 8)) fun μ16 =>
  gLet (α := gM) (w3 μ16 11 n0 9 (μ16 11 n1 9)) fun μ18 =>
  gLet (α := gM) (w3 μ18 11 n0 10 (μ18 11 n1 10)) fun μ20 =>
  gLet (α := gM) (w3 μ20 11 n0 11 (μ20 11 n1 11)) fun μ22 =>
  some μ22
set_option maxHeartbeats 4000000 in
set_option maxRecDepth 100000 in
theorem kX4_copyFrom (l : Launch) (D : va_G) (tc : Nat → ClassId) (sa : Nat → Nat) (ad : Nat → Nat → Nat) (nc : Nat) (hnc : 0 < nc ∧ nc ≤ 2) (hI : gI (gE_C nc) ad) (n0 : Nat) (hn0 : n0 < 5 * nc) (n1 : Nat) (hn1 : n1 < 5 * nc) (μ : gM) (μ' : gM) (h : mX4_copyFrom nc n0 n1 μ = some μ') : gMet l yX4_copyFrom cX4_copyFrom 2 (none) ({ frames := 3, cells := 0, slots := 0, locals := 101 } : Room) D (gE_C nc) gkd_C tc ad (grh_C nc) sa [.ref (ad 11 n0), .ref (ad 11 n1)] μ (none) μ' := by
  refine gMet_of hI ⟨by decide +kernel, Nat.le_of_ble_eq_true rfl⟩ (fun p e s m args below meth c sz hr hlk => ?_)
  unfold mX4_copyFrom at h
  show JC p l e ({ frames := 3, cells := 0, slots := 0, locals := 101 } : Room) s m args below meth c cX4_copyFrom 2 RX4 D tc sa ad nc sz (none) μ' μ 0 [(0, .ref (ad 11 n0)), (1, .ref (ad 11 n1))] []
  refine J_aload_n (i := 0) (q := 0) (pc1 := 1) dX4_copyFrom_0 rfl rfl rfl ?_
  refine J_getR (T := TX4) (f' := 12) (i' := n0) (pc1 := 4) (eC11 hn0) rfl rfl inX4 1 (by decide) rfl rfl flX4_18 rfl dX4_copyFrom_1 rfl ?_
  refine J_aload_n (i := 1) (q := 1) (pc1 := 5) dX4_copyFrom_4 rfl rfl rfl ?_
  refine J_getR (T := TX4) (f' := 12) (i' := n1) (pc1 := 8) (eC11 hn1) rfl rfl inX4 1 (by decide) rfl rfl flX4_18 rfl dX4_copyFrom_5 rfl ?_
  obtain ⟨μ2, hc1, h⟩ := gBp_s h
  refine J_callV (As := [.ref (ad 12 n1)]) (ad := ad) (f := 12) (i := n0) (st := []) (st1 := []) (pc1 := 11) (kX1_copyFrom l D tc sa ad nc hnc hI n0 hn0 n1 hn1 μ μ2 hc1) wcX1_copyFrom wlX4_55 (eC12 hn0) rfl rfl rfl ⟨rfl, rfl, Nat.le_of_ble_eq_true rfl, Nat.le_of_ble_eq_true rfl⟩ ⟨Nat.zero_le _, Nat.zero_le _⟩ (Nat.le_of_ble_eq_true rfl) dX4_copyFrom_8 rfl rfl ?_
  refine J_aload_n (i := 1) (q := 1) (pc1 := 12) dX4_copyFrom_11 rfl rfl rfl ?_
  refine J_getR (T := TX4) (f' := 13) (i' := n1) (pc1 := 15) (eC11 hn1) rfl rfl inX4 2 (by decide) rfl rfl flX4_22 rfl dX4_copyFrom_12 rfl ?_
  refine J_iconst (v := 0) (pc1 := 16) dX4_copyFrom_15 (by decide) rfl ?_
  refine J_aload_n (i := 0) (q := 0) (pc1 := 17) dX4_copyFrom_16 rfl rfl rfl ?_
  refine J_getR (T := TX4) (f' := 13) (i' := n0) (pc1 := 20) (eC11 hn0) rfl rfl inX4 2 (by decide) rfl rfl flX4_22 rfl dX4_copyFrom_17 rfl ?_
  refine J_iconst (v := 0) (pc1 := 21) dX4_copyFrom_20 (by decide) rfl ?_
  refine J_iconst (v := 5) (pc1 := 22) dX4_copyFrom_21 (by decide) rfl ?_
  refine J_copy (μ' := cp3 μ2 13 n0 13 n1 0 0 5) (pc1 := 25) (eC13 hn1) rfl (eC13 hn0) rfl wlX4_59 acNat acSt iniSys (by decide) (by decide) (by decide) (by decide) (by decide) (cp3_at _ _ _ _ _ _ _ _) (fun _ _ hne => cp3_ne hne) ⟨Nat.le_of_ble_eq_true rfl, Nat.le_of_ble_eq_true rfl⟩ dX4_copyFrom_22 rfl ?_
  obtain ⟨μ3, e4, h⟩ := gLet_s h
  rw [← e4]
  clear e4
  refine J_aload_n (i := 1) (q := 1) (pc1 := 26) dX4_copyFrom_25 rfl rfl rfl ?_
  refine J_getR (T := TX4) (f' := 14) (i' := n1) (pc1 := 29) (eC11 hn1) rfl rfl inX4 3 (by decide) rfl rfl flX4_26 rfl dX4_copyFrom_26 rfl ?_
  refine J_iconst (v := 0) (pc1 := 30) dX4_copyFrom_29 (by decide) rfl ?_
  refine J_aload_n (i := 0) (q := 0) (pc1 := 31) dX4_copyFrom_30 rfl rfl rfl ?_
  refine J_getR (T := TX4) (f' := 14) (i' := n0) (pc1 := 34) (eC11 hn0) rfl rfl inX4 3 (by decide) rfl rfl flX4_26 rfl dX4_copyFrom_31 rfl ?_
  refine J_iconst (v := 0) (pc1 := 35) dX4_copyFrom_34 (by decide) rfl ?_
  refine J_iconst (v := 5) (pc1 := 36) dX4_copyFrom_35 (by decide) rfl ?_
  refine J_copy (μ' := cp3 μ3 14 n0 14 n1 0 0 5) (pc1 := 39) (eC14 hn1) rfl (eC14 hn0) rfl wlX4_59 acNat acSt iniSys (by decide) (by decide) (by decide) (by decide) (by decide) (cp3_at _ _ _ _ _ _ _ _) (fun _ _ hne => cp3_ne hne) ⟨Nat.le_of_ble_eq_true rfl, Nat.le_of_ble_eq_true rfl⟩ dX4_copyFrom_36 rfl ?_
  obtain ⟨μ5, e6, h⟩ := gLet_s h
  rw [← e6]
  clear e6
  refine J_aload_n (i := 1) (q := 1) (pc1 := 40) dX4_copyFrom_39 rfl rfl rfl ?_
  refine J_getR (T := TX4) (f' := 15) (i' := n1) (pc1 := 43) (eC11 hn1) rfl rfl inX4 4 (by decide) rfl rfl flX4_29 rfl dX4_copyFrom_40 rfl ?_
  refine J_iconst (v := 0) (pc1 := 44) dX4_copyFrom_43 (by decide) rfl ?_
  refine J_aload_n (i := 0) (q := 0) (pc1 := 45) dX4_copyFrom_44 rfl rfl rfl ?_
  refine J_getR (T := TX4) (f' := 15) (i' := n0) (pc1 := 48) (eC11 hn0) rfl rfl inX4 4 (by decide) rfl rfl flX4_29 rfl dX4_copyFrom_45 rfl ?_
  refine J_iconst (v := 0) (pc1 := 49) dX4_copyFrom_48 (by decide) rfl ?_
  refine J_iconst (v := 5) (pc1 := 50) dX4_copyFrom_49 (by decide) rfl ?_
  refine J_copy (μ' := cp3 μ5 15 n0 15 n1 0 0 5) (pc1 := 53) (eC15 hn1) rfl (eC15 hn0) rfl wlX4_59 acNat acSt iniSys (by decide) (by decide) (by decide) (by decide) (by decide) (cp3_at _ _ _ _ _ _ _ _) (fun _ _ hne => cp3_ne hne) ⟨Nat.le_of_ble_eq_true rfl, Nat.le_of_ble_eq_true rfl⟩ dX4_copyFrom_50 rfl ?_
  obtain ⟨μ7, e8, h⟩ := gLet_s h
  rw [← e8]
  clear e8
  refine J_aload_n (i := 0) (q := 0) (pc1 := 54) dX4_copyFrom_53 rfl rfl rfl ?_
  refine J_aload_n (i := 1) (q := 1) (pc1 := 55) dX4_copyFrom_54 rfl rfl rfl ?_
  refine J_getI (T := TX4) (pc1 := 58) (eC11 hn1) rfl rfl inX4 5 (by decide) rfl flX4_36 rfl dX4_copyFrom_55 rfl ?_
  obtain ⟨h9, h⟩ := gChk_s h
  refine J_putI (T := TX4) (pc1 := 61) (eC11 hn0) rfl rfl inX4 tyX4 tyX4_ok nmX4 5 (by decide) rfl (fun _ _ _ _ => gh11) flX4_36 rfl rfl (gZn h9) (gZf h9) dX4_copyFrom_58 rfl ?_
  obtain ⟨μ10, e11, h⟩ := gLet_s h
  rw [← e11]
  clear e11
  refine J_aload_n (i := 0) (q := 0) (pc1 := 62) dX4_copyFrom_61 rfl rfl rfl ?_
  refine J_aload_n (i := 1) (q := 1) (pc1 := 63) dX4_copyFrom_62 rfl rfl rfl ?_
  refine J_getI (T := TX4) (pc1 := 66) (eC11 hn1) rfl rfl inX4 6 (by decide) rfl flX4_40 rfl dX4_copyFrom_63 rfl ?_
  refine J_putI (T := TX4) (pc1 := 69) (eC11 hn0) rfl rfl inX4 tyX4 tyX4_ok nmX4 6 (by decide) rfl (fun _ _ _ _ => gh11) flX4_40 rfl rfl rfl rfl dX4_copyFrom_66 rfl ?_
  obtain ⟨μ12, e13, h⟩ := gLet_s h
  rw [← e13]
  clear e13
  refine J_aload_n (i := 0) (q := 0) (pc1 := 70) dX4_copyFrom_69 rfl rfl rfl ?_
  refine J_aload_n (i := 1) (q := 1) (pc1 := 71) dX4_copyFrom_70 rfl rfl rfl ?_
  refine J_getI (T := TX4) (pc1 := 74) (eC11 hn1) rfl rfl inX4 7 (by decide) rfl flX4_43 rfl dX4_copyFrom_71 rfl ?_
  refine J_putI (T := TX4) (pc1 := 77) (eC11 hn0) rfl rfl inX4 tyX4 tyX4_ok nmX4 7 (by decide) rfl (fun _ _ _ _ => gh11) flX4_43 rfl rfl rfl rfl dX4_copyFrom_74 rfl ?_
  obtain ⟨μ14, e15, h⟩ := gLet_s h
  rw [← e15]
  clear e15
  refine J_aload_n (i := 0) (q := 0) (pc1 := 78) dX4_copyFrom_77 rfl rfl rfl ?_
  refine J_aload_n (i := 1) (q := 1) (pc1 := 79) dX4_copyFrom_78 rfl rfl rfl ?_
  refine J_getI (T := TX4) (pc1 := 82) (eC11 hn1) rfl rfl inX4 8 (by decide) rfl flX4_46 rfl dX4_copyFrom_79 rfl ?_
  refine J_putI (T := TX4) (pc1 := 85) (eC11 hn0) rfl rfl inX4 tyX4 tyX4_ok nmX4 8 (by decide) rfl (fun _ _ _ _ => gh11) flX4_46 rfl rfl rfl rfl dX4_copyFrom_82 rfl ?_
  obtain ⟨μ16, e17, h⟩ := gLet_s h
  rw [← e17]
  clear e17
  refine J_aload_n (i := 0) (q := 0) (pc1 := 86) dX4_copyFrom_85 rfl rfl rfl ?_
  refine J_aload_n (i := 1) (q := 1) (pc1 := 87) dX4_copyFrom_86 rfl rfl rfl ?_
  refine J_getI (T := TX4) (pc1 := 90) (eC11 hn1) rfl rfl inX4 9 (by decide) rfl flX4_49 rfl dX4_copyFrom_87 rfl ?_
  refine J_putI (T := TX4) (pc1 := 93) (eC11 hn0) rfl rfl inX4 tyX4 tyX4_ok nmX4 9 (by decide) rfl (fun _ _ _ _ => gh11) flX4_49 rfl rfl rfl rfl dX4_copyFrom_90 rfl ?_
  obtain ⟨μ18, e19, h⟩ := gLet_s h
  rw [← e19]
  clear e19
  refine J_aload_n (i := 0) (q := 0) (pc1 := 94) dX4_copyFrom_93 rfl rfl rfl ?_
  refine J_aload_n (i := 1) (q := 1) (pc1 := 95) dX4_copyFrom_94 rfl rfl rfl ?_
  refine J_getI (T := TX4) (pc1 := 98) (eC11 hn1) rfl rfl inX4 10 (by decide) rfl flX4_65 rfl dX4_copyFrom_95 rfl ?_
  refine J_putI (T := TX4) (pc1 := 101) (eC11 hn0) rfl rfl inX4 tyX4 tyX4_ok nmX4 10 (by decide) rfl (fun _ _ _ _ => gh11) flX4_65 rfl rfl rfl rfl dX4_copyFrom_98 rfl ?_
  obtain ⟨μ20, e21, h⟩ := gLet_s h
  rw [← e21]
  clear e21
  refine J_aload_n (i := 0) (q := 0) (pc1 := 102) dX4_copyFrom_101 rfl rfl rfl ?_
  refine J_aload_n (i := 1) (q := 1) (pc1 := 103) dX4_copyFrom_102 rfl rfl rfl ?_
  refine J_getI (T := TX4) (pc1 := 106) (eC11 hn1) rfl rfl inX4 11 (by decide) rfl flX4_52 rfl dX4_copyFrom_103 rfl ?_
  refine J_putI (T := TX4) (pc1 := 109) (eC11 hn0) rfl rfl inX4 tyX4 tyX4_ok nmX4 11 (by decide) rfl (fun _ _ _ _ => gh11) flX4_52 rfl rfl rfl rfl dX4_copyFrom_106 rfl ?_
  obtain ⟨μ22, e23, h⟩ := gLet_s h
  rw [← e23]
  clear e23
  cases h
  exact J_vret hr hlk dX4_copyFrom_109
def mX3_isDue (nc : Nat) (q0 : Nat) (a1 : Int32) (a2 : Int32) (μ : gM) : Option Int32 :=
  if a1 < 0 then
    some 0
  else
    if (μ 9 q0 3) ≤ a1 then
      some 0
    else
      if 40 ≤ a1 then
        some 0
      else
        gChk (inb a1 40) <|
        gLet (α := Nat) ((μ 10 q0 (a1.toNatClampNeg)).toNatClampNeg) fun t5 =>
        gChk (t5 < 42 * nc) <|
        if a2 < (μ 19 t5 8) then
          some 0
        else
          some 1
set_option maxHeartbeats 4000000 in
set_option maxRecDepth 100000 in
theorem kX3_isDue (l : Launch) (D : va_G) (tc : Nat → ClassId) (sa : Nat → Nat) (ad : Nat → Nat → Nat) (nc : Nat) (hnc : 0 < nc ∧ nc ≤ 2) (hI : gI (gE_C nc) ad) (q0 : Nat) (hq0 : q0 < nc) (a1 : Int32) (a2 : Int32) (μ : gM) (r : Int32) (h : mX3_isDue nc q0 a1 a2 μ = some r) : gMet l yX3_isDue cX3_isDue 3 (some .boolean) ({ frames := 0, cells := 0, slots := 0, locals := 0 } : Room) D (gE_C nc) gkd_C tc ad (grh_C nc) sa [.ref (ad 9 q0), .int a1, .int a2] μ (some (.int r)) μ := by
  refine gMet_of hI ⟨by decide +kernel, Nat.le_of_ble_eq_true rfl⟩ (fun p e s m args below meth c sz hr hlk => ?_)
  unfold mX3_isDue at h
  show JC p l e ({ frames := 0, cells := 0, slots := 0, locals := 0 } : Room) s m args below meth c cX3_isDue 3 RX3 D tc sa ad nc sz (some (.int r)) μ μ 0 [(0, .ref (ad 9 q0)), (1, .int a1), (2, .int a2)] []
  refine J_iload_n (i := 1) (q := 1) (pc1 := 1) dX3_isDue_0 rfl rfl rfl ?_
  refine J_if_lt (tgt := 35) (pc1 := 4) dX3_isDue_1 (by decide) (fun q1 => ?_) rfl (fun q1 => ?_)
  · rw [if_pos q1] at h
    refine J_iconst (v := 0) (pc1 := 36) dX3_isDue_35 (by decide) rfl ?_
    cases h
    exact J_zret (by decide) hr hlk dX3_isDue_36
  · rw [if_neg q1] at h
    refine J_iload_n (i := 1) (q := 1) (pc1 := 5) dX3_isDue_4 rfl rfl rfl ?_
    refine J_aload_n (i := 0) (q := 0) (pc1 := 6) dX3_isDue_5 rfl rfl rfl ?_
    refine J_getI (T := TX3) (pc1 := 9) (eC9 hq0) rfl rfl inX3 3 (by decide) rfl flX3_25 rfl dX3_isDue_6 rfl ?_
    refine J_icmp_ge (tgt := 35) (pc1 := 12) dX3_isDue_9 (by decide) (fun q2 => ?_) rfl (fun q2 => ?_)
    · rw [if_pos q2] at h
      refine J_iconst (v := 0) (pc1 := 36) dX3_isDue_35 (by decide) rfl ?_
      cases h
      exact J_zret (by decide) hr hlk dX3_isDue_36
    · rw [if_neg q2] at h
      refine J_iload_n (i := 1) (q := 1) (pc1 := 13) dX3_isDue_12 rfl rfl rfl ?_
      refine J_bipush (v := 40) (pc1 := 15) dX3_isDue_13 (by decide) rfl ?_
      refine J_icmp_ge (tgt := 35) (pc1 := 18) dX3_isDue_15 (by decide) (fun q3 => ?_) rfl (fun q3 => ?_)
      · rw [if_pos q3] at h
        refine J_iconst (v := 0) (pc1 := 36) dX3_isDue_35 (by decide) rfl ?_
        cases h
        exact J_zret (by decide) hr hlk dX3_isDue_36
      · rw [if_neg q3] at h
        refine J_aload_n (i := 0) (q := 0) (pc1 := 19) dX3_isDue_18 rfl rfl rfl ?_
        refine J_getR (T := TX3) (f' := 10) (i' := q0) (pc1 := 22) (eC9 hq0) rfl rfl inX3 0 (by decide) rfl rfl flX3_11 rfl dX3_isDue_19 rfl ?_
        refine J_iload_n (i := 1) (q := 1) (pc1 := 23) dX3_isDue_22 rfl rfl rfl ?_
        obtain ⟨h4, h⟩ := gChk_s h
        obtain ⟨t5, e6, h⟩ := gLet_s h
        obtain ⟨h7, h⟩ := gChk_s h
        refine J_aald (f' := 19) (i' := t5) (pc1 := 24) (eC10 hq0) rfl rfl h4 (by rw [e6]; rfl) dX3_isDue_23 rfl ?_
        refine J_getI (T := TX2) (pc1 := 27) (eC19 h7) rfl rfl inX2 8 (by decide) rfl flX3_45 rfl dX3_isDue_24 rfl ?_
        refine J_iload_n (i := 2) (q := 2) (pc1 := 28) dX3_isDue_27 rfl rfl rfl ?_
        refine J_icmp_gt (tgt := 35) (pc1 := 31) dX3_isDue_28 (by decide) (fun q8 => ?_) rfl (fun q8 => ?_)
        · rw [if_pos q8] at h
          refine J_iconst (v := 0) (pc1 := 36) dX3_isDue_35 (by decide) rfl ?_
          cases h
          exact J_zret (by decide) hr hlk dX3_isDue_36
        · rw [if_neg q8] at h
          refine J_iconst (v := 1) (pc1 := 32) dX3_isDue_31 (by decide) rfl ?_
          refine J_goto (tgt := 36) dX3_isDue_32 (by decide) ?_
          cases h
          exact J_zret (by decide) hr hlk dX3_isDue_36
def mX3_remove (nc : Nat) (q0 : Nat) (a1 : Int32) (μ : gM) : Option gM :=
  if a1 < 0 then
    some μ
  else
    if (μ 9 q0 3) ≤ a1 then
      some μ
    else
      if (μ 9 q0 3) ≤ 40 then
        gChk (inb a1 40) <|
        gLet (α := Nat) ((μ 10 q0 (a1.toNatClampNeg)).toNatClampNeg) fun t5 =>
        gChk (t5 < 42 * nc) <|
        gJon (fun (μ8 : gM) =>
            gLet (α := gM) (w3 μ8 9 q0 3 ((μ8 9 q0 3) - 1)) fun μ10 =>
            gLet (α := Nat) ((μ10 9 q0 2).toNatClampNeg) fun t12 =>
            gChk (t12 < 42 * nc) <|
            gChk (inb (μ10 9 q0 3) 40) <|
            gLet (α := gM) (w3 μ10 10 q0 ((μ10 9 q0 3).toNatClampNeg) (nI t12)) fun μ16 =>
            gLet (α := gM) (w3 μ16 9 q0 2 (nI t5)) fun μ18 =>
            some μ18) fun j9 =>
        gFx2 (fun rec22 (x20 : Int32) (μ21 : gM) =>
            if ((μ21 9 q0 3) - 1) ≤ x20 then
              j9 μ21
            else
              gChk (inb (x20 + 1) 40) <|
              gLet (α := Nat) ((μ21 10 q0 ((x20 + 1).toNatClampNeg)).toNatClampNeg) fun t25 =>
              gChk (t25 < 42 * nc) <|
              gChk (inb x20 40) <|
              gLet (α := gM) (w3 μ21 10 q0 (x20.toNatClampNeg) (nI t25)) fun μ29 =>
              rec22 (x20 + 1) μ29) 1000000 a1 μ
      else
        some μ
set_option maxHeartbeats 4000000 in
set_option maxRecDepth 100000 in
theorem kX3_remove (l : Launch) (D : va_G) (tc : Nat → ClassId) (sa : Nat → Nat) (ad : Nat → Nat → Nat) (nc : Nat) (hnc : 0 < nc ∧ nc ≤ 2) (hI : gI (gE_C nc) ad) (q0 : Nat) (hq0 : q0 < nc) (a1 : Int32) (μ : gM) (μ' : gM) (h : mX3_remove nc q0 a1 μ = some μ') : gMet l yX3_remove cX3_remove 4 (none) ({ frames := 0, cells := 0, slots := 0, locals := 0 } : Room) D (gE_C nc) gkd_C tc ad (grh_C nc) sa [.ref (ad 9 q0), .int a1] μ (none) μ' := by
  refine gMet_of hI ⟨by decide +kernel, Nat.le_of_ble_eq_true rfl⟩ (fun p e s m args below meth c sz hr hlk => ?_)
  unfold mX3_remove at h
  show JC p l e ({ frames := 0, cells := 0, slots := 0, locals := 0 } : Room) s m args below meth c cX3_remove 4 RX3 D tc sa ad nc sz (none) μ' μ 0 [(0, .ref (ad 9 q0)), (1, .int a1)] []
  refine J_iload_n (i := 1) (q := 1) (pc1 := 1) dX3_remove_0 rfl rfl rfl ?_
  refine J_if_lt (tgt := 21) (pc1 := 4) dX3_remove_1 (by decide) (fun q1 => ?_) rfl (fun q1 => ?_)
  · rw [if_pos q1] at h
    cases h
    exact J_vret hr hlk dX3_remove_21
  · rw [if_neg q1] at h
    refine J_iload_n (i := 1) (q := 1) (pc1 := 5) dX3_remove_4 rfl rfl rfl ?_
    refine J_aload_n (i := 0) (q := 0) (pc1 := 6) dX3_remove_5 rfl rfl rfl ?_
    refine J_getI (T := TX3) (pc1 := 9) (eC9 hq0) rfl rfl inX3 3 (by decide) rfl flX3_25 rfl dX3_remove_6 rfl ?_
    refine J_icmp_ge (tgt := 21) (pc1 := 12) dX3_remove_9 (by decide) (fun q2 => ?_) rfl (fun q2 => ?_)
    · rw [if_pos q2] at h
      cases h
      exact J_vret hr hlk dX3_remove_21
    · rw [if_neg q2] at h
      refine J_aload_n (i := 0) (q := 0) (pc1 := 13) dX3_remove_12 rfl rfl rfl ?_
      refine J_getI (T := TX3) (pc1 := 16) (eC9 hq0) rfl rfl inX3 3 (by decide) rfl flX3_25 rfl dX3_remove_13 rfl ?_
      refine J_bipush (v := 40) (pc1 := 18) dX3_remove_16 (by decide) rfl ?_
      refine J_icmp_le (tgt := 22) (pc1 := 21) dX3_remove_18 (by decide) (fun q3 => ?_) rfl (fun q3 => ?_)
      · rw [if_pos q3] at h
        refine J_aload_n (i := 0) (q := 0) (pc1 := 23) dX3_remove_22 rfl rfl rfl ?_
        refine J_getR (T := TX3) (f' := 10) (i' := q0) (pc1 := 26) (eC9 hq0) rfl rfl inX3 0 (by decide) rfl rfl flX3_11 rfl dX3_remove_23 rfl ?_
        refine J_iload_n (i := 1) (q := 1) (pc1 := 27) dX3_remove_26 rfl rfl rfl ?_
        obtain ⟨h4, h⟩ := gChk_s h
        obtain ⟨t5, e6, h⟩ := gLet_s h
        obtain ⟨h7, h⟩ := gChk_s h
        refine J_aald (f' := 19) (i' := t5) (pc1 := 28) (eC10 hq0) rfl rfl h4 (by rw [e6]; rfl) dX3_remove_27 rfl ?_
        refine J_astore_n (i := 2) (lv1 := [(2, .ref (ad 19 t5)), (0, .ref (ad 9 q0)), (1, .int a1)]) (pc1 := 29) dX3_remove_28 rfl (by decide) rfl rfl ?_
        refine J_iload_n (i := 1) (q := 2) (pc1 := 30) dX3_remove_29 rfl rfl rfl ?_
        refine J_istore_n (i := 3) (lv1 := [(3, .int a1), (2, .ref (ad 19 t5)), (0, .ref (ad 9 q0)), (1, .int a1)]) (pc1 := 31) dX3_remove_30 rfl (by decide) rfl rfl ?_
        obtain ⟨j9, ej9, h⟩ := gJon_s h
        have kj9 : ∀ (μ8 : gM), j9 μ8 = some μ' → JC p l e ({ frames := 0, cells := 0, slots := 0, locals := 0 } : Room) s m args below meth c cX3_remove 4 RX3 D tc sa ad nc sz (none) μ' μ8 61 [(0, .ref (ad 9 q0)), (2, .ref (ad 19 t5))] [] := by
          intro μ8 h
          rw [ej9] at h
          try dsimp only at h
          refine J_aload_n (i := 0) (q := 0) (pc1 := 62) dX3_remove_61 rfl rfl rfl ?_
          refine J_dup (pc1 := 63) dX3_remove_62 rfl rfl ?_
          refine J_getI (T := TX3) (pc1 := 66) (eC9 hq0) rfl rfl inX3 3 (by decide) rfl flX3_25 rfl dX3_remove_63 rfl ?_
          refine J_iconst (v := 1) (pc1 := 67) dX3_remove_66 (by decide) rfl ?_
          refine J_isub (pc1 := 68) dX3_remove_67 rfl ?_
          refine J_putI (T := TX3) (pc1 := 71) (eC9 hq0) rfl rfl inX3 tyX3 tyX3_ok nmX3 3 (by decide) rfl (gHrl9 (by decide) (by decide)) flX3_25 rfl rfl rfl rfl dX3_remove_68 rfl ?_
          obtain ⟨μ10, e11, h⟩ := gLet_s h
          rw [← e11]
          clear e11
          refine J_aload_n (i := 0) (q := 0) (pc1 := 72) dX3_remove_71 rfl rfl rfl ?_
          refine J_getR (T := TX3) (f' := 10) (i' := q0) (pc1 := 75) (eC9 hq0) rfl rfl inX3 0 (by decide) rfl rfl flX3_11 rfl dX3_remove_72 rfl ?_
          refine J_aload_n (i := 0) (q := 0) (pc1 := 76) dX3_remove_75 rfl rfl rfl ?_
          refine J_getI (T := TX3) (pc1 := 79) (eC9 hq0) rfl rfl inX3 3 (by decide) rfl flX3_25 rfl dX3_remove_76 rfl ?_
          refine J_aload_n (i := 0) (q := 0) (pc1 := 80) dX3_remove_79 rfl rfl rfl ?_
          obtain ⟨t12, e13, h⟩ := gLet_s h
          obtain ⟨h14, h⟩ := gChk_s h
          refine J_getR (T := TX3) (f' := 19) (i' := t12) (pc1 := 83) (eC9 hq0) rfl rfl inX3 2 (by decide) rfl (by rw [e13]; rfl) flX3_22 rfl dX3_remove_80 rfl ?_
          obtain ⟨h15, h⟩ := gChk_s h
          refine J_aast (v := nI t12) (pc1 := 84) (eC10 hq0) rfl rfl (eC19 h14) rfl rfl h15 (gAstM hnc.2 h14) dX3_remove_83 rfl ?_
          obtain ⟨μ16, e17, h⟩ := gLet_s h
          rw [← e17]
          clear e17
          refine J_aload_n (i := 0) (q := 0) (pc1 := 85) dX3_remove_84 rfl rfl rfl ?_
          refine J_aload_n (i := 2) (q := 1) (pc1 := 86) dX3_remove_85 rfl rfl rfl ?_
          refine J_putR (f' := 19) (i' := t5) (v := nI t5) (T := TX3) (pc1 := 89) (eC9 hq0) rfl rfl inX3 tyX3 tyX3_ok nmX3 2 (by decide) rfl (gPutM2 hnc.2 h7) flX3_22 rfl rfl rfl rfl dX3_remove_86 rfl ?_
          obtain ⟨μ18, e19, h⟩ := gLet_s h
          rw [← e19]
          clear e19
          cases h
          exact J_vret hr hlk dX3_remove_89
        clear ej9
        refine J_sub [2, 1, 0] (lv1 := [(0, .ref (ad 9 q0)), (2, .ref (ad 19 t5)), (3, .int a1)]) rfl ?_
        refine gFx2_s (P := fun x20 μ21 => JC p l e ({ frames := 0, cells := 0, slots := 0, locals := 0 } : Room) s m args below meth c cX3_remove 4 RX3 D tc sa ad nc sz (none) μ' μ21 31 [(0, .ref (ad 9 q0)), (2, .ref (ad 19 t5)), (3, .int x20)] []) (fun rec22 ihrec22 x20 μ21 h => ?_) _ _ _ h
        try dsimp only at h
        refine J_iload_n (i := 3) (q := 2) (pc1 := 32) dX3_remove_31 rfl rfl rfl ?_
        refine J_aload_n (i := 0) (q := 0) (pc1 := 33) dX3_remove_32 rfl rfl rfl ?_
        refine J_getI (T := TX3) (pc1 := 36) (eC9 hq0) rfl rfl inX3 3 (by decide) rfl flX3_25 rfl dX3_remove_33 rfl ?_
        refine J_iconst (v := 1) (pc1 := 37) dX3_remove_36 (by decide) rfl ?_
        refine J_isub (pc1 := 38) dX3_remove_37 rfl ?_
        refine J_icmp_ge (tgt := 61) (pc1 := 41) dX3_remove_38 (by decide) (fun q23 => ?_) rfl (fun q23 => ?_)
        · rw [if_pos q23] at h
          refine J_sub [0, 1] (lv1 := [(0, .ref (ad 9 q0)), (2, .ref (ad 19 t5))]) rfl ?_
          exact kj9 _ h
        · rw [if_neg q23] at h
          refine J_aload_n (i := 0) (q := 0) (pc1 := 42) dX3_remove_41 rfl rfl rfl ?_
          refine J_getR (T := TX3) (f' := 10) (i' := q0) (pc1 := 45) (eC9 hq0) rfl rfl inX3 0 (by decide) rfl rfl flX3_11 rfl dX3_remove_42 rfl ?_
          refine J_iload_n (i := 3) (q := 2) (pc1 := 46) dX3_remove_45 rfl rfl rfl ?_
          refine J_aload_n (i := 0) (q := 0) (pc1 := 47) dX3_remove_46 rfl rfl rfl ?_
          refine J_getR (T := TX3) (f' := 10) (i' := q0) (pc1 := 50) (eC9 hq0) rfl rfl inX3 0 (by decide) rfl rfl flX3_11 rfl dX3_remove_47 rfl ?_
          refine J_iload_n (i := 3) (q := 2) (pc1 := 51) dX3_remove_50 rfl rfl rfl ?_
          refine J_iconst (v := 1) (pc1 := 52) dX3_remove_51 (by decide) rfl ?_
          refine J_iadd (pc1 := 53) dX3_remove_52 rfl ?_
          obtain ⟨h24, h⟩ := gChk_s h
          obtain ⟨t25, e26, h⟩ := gLet_s h
          obtain ⟨h27, h⟩ := gChk_s h
          refine J_aald (f' := 19) (i' := t25) (pc1 := 54) (eC10 hq0) rfl rfl h24 (by rw [e26]; rfl) dX3_remove_53 rfl ?_
          obtain ⟨h28, h⟩ := gChk_s h
          refine J_aast (v := nI t25) (pc1 := 55) (eC10 hq0) rfl rfl (eC19 h27) rfl rfl h28 (gAstM hnc.2 h27) dX3_remove_54 rfl ?_
          obtain ⟨μ29, e30, h⟩ := gLet_s h
          rw [← e30]
          clear e30
          refine J_iinc (i := 3) (q := 2) (v := x20 + 1) (lv1 := [(3, .int (x20 + 1)), (0, .ref (ad 9 q0)), (2, .ref (ad 19 t5))]) (pc1 := 58) dX3_remove_55 rfl rfl (by decide) rfl rfl ?_
          refine J_goto (tgt := 31) dX3_remove_58 (by decide) ?_
          refine J_sub [1, 2, 0] (lv1 := [(0, .ref (ad 9 q0)), (2, .ref (ad 19 t5)), (3, .int (x20 + 1))]) rfl ?_
          exact ihrec22 _ _ h
      · rw [if_neg q3] at h
        cases h
        exact J_vret hr hlk dX3_remove_21
def mX6_isNode (nc : Nat) (a1 : Int32) (μ : gM) : Option Int32 :=
  if a1 < 0 then
    some 0
  else
    if 5 ≤ a1 then
      some 0
    else
      some 1
set_option maxHeartbeats 4000000 in
set_option maxRecDepth 100000 in
theorem kX6_isNode (l : Launch) (D : va_G) (tc : Nat → ClassId) (sa : Nat → Nat) (ad : Nat → Nat → Nat) (nc : Nat) (hnc : 0 < nc ∧ nc ≤ 2) (hI : gI (gE_C nc) ad) (a1 : Int32) (μ : gM) (r : Int32) (h : mX6_isNode nc a1 μ = some r) : gMet l yX6_isNode cX6_isNode 1 (some .boolean) ({ frames := 0, cells := 0, slots := 0, locals := 0 } : Room) D (gE_C nc) gkd_C tc ad (grh_C nc) sa [.int a1] μ (some (.int r)) μ := by
  refine gMet_of hI ⟨by decide +kernel, Nat.le_of_ble_eq_true rfl⟩ (fun p e s m args below meth c sz hr hlk => ?_)
  unfold mX6_isNode at h
  show JC p l e ({ frames := 0, cells := 0, slots := 0, locals := 0 } : Room) s m args below meth c cX6_isNode 1 RX6 D tc sa ad nc sz (some (.int r)) μ μ 0 [(0, .int a1)] []
  refine J_iload_n (i := 0) (q := 0) (pc1 := 1) dX6_isNode_0 rfl rfl rfl ?_
  refine J_if_lt (tgt := 13) (pc1 := 4) dX6_isNode_1 (by decide) (fun q1 => ?_) rfl (fun q1 => ?_)
  · rw [if_pos q1] at h
    refine J_iconst (v := 0) (pc1 := 14) dX6_isNode_13 (by decide) rfl ?_
    cases h
    exact J_zret (by decide) hr hlk dX6_isNode_14
  · rw [if_neg q1] at h
    refine J_iload_n (i := 0) (q := 0) (pc1 := 5) dX6_isNode_4 rfl rfl rfl ?_
    refine J_iconst (v := 5) (pc1 := 6) dX6_isNode_5 (by decide) rfl ?_
    refine J_icmp_ge (tgt := 13) (pc1 := 9) dX6_isNode_6 (by decide) (fun q2 => ?_) rfl (fun q2 => ?_)
    · rw [if_pos q2] at h
      refine J_iconst (v := 0) (pc1 := 14) dX6_isNode_13 (by decide) rfl ?_
      cases h
      exact J_zret (by decide) hr hlk dX6_isNode_14
    · rw [if_neg q2] at h
      refine J_iconst (v := 1) (pc1 := 10) dX6_isNode_9 (by decide) rfl ?_
      refine J_goto (tgt := 14) dX6_isNode_10 (by decide) ?_
      cases h
      exact J_zret (by decide) hr hlk dX6_isNode_14
def mX4_follow (nc : Nat) (n0 : Nat) (μ : gM) : Option gM :=
  gLet (α := gM) (w3 μ 11 n0 6 0) fun μ1 =>
  some μ1
set_option maxHeartbeats 4000000 in
set_option maxRecDepth 100000 in
theorem kX4_follow (l : Launch) (D : va_G) (tc : Nat → ClassId) (sa : Nat → Nat) (ad : Nat → Nat → Nat) (nc : Nat) (hnc : 0 < nc ∧ nc ≤ 2) (hI : gI (gE_C nc) ad) (n0 : Nat) (hn0 : n0 < 5 * nc) (μ : gM) (μ' : gM) (h : mX4_follow nc n0 μ = some μ') : gMet l yX4_follow cX4_follow 1 (none) ({ frames := 0, cells := 0, slots := 0, locals := 0 } : Room) D (gE_C nc) gkd_C tc ad (grh_C nc) sa [.ref (ad 11 n0)] μ (none) μ' := by
  refine gMet_of hI ⟨by decide +kernel, Nat.le_of_ble_eq_true rfl⟩ (fun p e s m args below meth c sz hr hlk => ?_)
  unfold mX4_follow at h
  show JC p l e ({ frames := 0, cells := 0, slots := 0, locals := 0 } : Room) s m args below meth c cX4_follow 1 RX4 D tc sa ad nc sz (none) μ' μ 0 [(0, .ref (ad 11 n0))] []
  refine J_aload_n (i := 0) (q := 0) (pc1 := 1) dX4_follow_0 rfl rfl rfl ?_
  refine J_iconst (v := 0) (pc1 := 2) dX4_follow_1 (by decide) rfl ?_
  refine J_putI (T := TX4) (pc1 := 5) (eC11 hn0) rfl rfl inX4 tyX4 tyX4_ok nmX4 6 (by decide) rfl (fun _ _ _ _ => gh11) flX4_40 rfl rfl rfl rfl dX4_follow_2 rfl ?_
  obtain ⟨μ1, e2, h⟩ := gLet_s h
  rw [← e2]
  clear e2
  cases h
  exact J_vret hr hlk dX4_follow_5
def mX3_isCut (nc : Nat) (q0 : Nat) (a1 : Int32) (a2 : Int32) (μ : gM) : Option Int32 :=
  if (((μ 9 q0 4) >>> (((a1 * 5) + a2) &&& 31)) &&& 1) = 1 then
    some 1
  else
    some 0
set_option maxHeartbeats 4000000 in
set_option maxRecDepth 100000 in
theorem kX3_isCut (l : Launch) (D : va_G) (tc : Nat → ClassId) (sa : Nat → Nat) (ad : Nat → Nat → Nat) (nc : Nat) (hnc : 0 < nc ∧ nc ≤ 2) (hI : gI (gE_C nc) ad) (q0 : Nat) (hq0 : q0 < nc) (a1 : Int32) (a2 : Int32) (μ : gM) (r : Int32) (h : mX3_isCut nc q0 a1 a2 μ = some r) : gMet l yX3_isCut cX3_isCut 3 (some .boolean) ({ frames := 0, cells := 0, slots := 0, locals := 0 } : Room) D (gE_C nc) gkd_C tc ad (grh_C nc) sa [.ref (ad 9 q0), .int a1, .int a2] μ (some (.int r)) μ := by
  refine gMet_of hI ⟨by decide +kernel, Nat.le_of_ble_eq_true rfl⟩ (fun p e s m args below meth c sz hr hlk => ?_)
  unfold mX3_isCut at h
  show JC p l e ({ frames := 0, cells := 0, slots := 0, locals := 0 } : Room) s m args below meth c cX3_isCut 3 RX3 D tc sa ad nc sz (some (.int r)) μ μ 0 [(0, .ref (ad 9 q0)), (1, .int a1), (2, .int a2)] []
  refine J_aload_n (i := 0) (q := 0) (pc1 := 1) dX3_isCut_0 rfl rfl rfl ?_
  refine J_getI (T := TX3) (pc1 := 4) (eC9 hq0) rfl rfl inX3 4 (by decide) rfl flX3_29 rfl dX3_isCut_1 rfl ?_
  refine J_iload_n (i := 1) (q := 1) (pc1 := 5) dX3_isCut_4 rfl rfl rfl ?_
  refine J_iconst (v := 5) (pc1 := 6) dX3_isCut_5 (by decide) rfl ?_
  refine J_imul (pc1 := 7) dX3_isCut_6 rfl ?_
  refine J_iload_n (i := 2) (q := 2) (pc1 := 8) dX3_isCut_7 rfl rfl rfl ?_
  refine J_iadd (pc1 := 9) dX3_isCut_8 rfl ?_
  refine J_ishr (pc1 := 10) dX3_isCut_9 rfl ?_
  refine J_iconst (v := 1) (pc1 := 11) dX3_isCut_10 (by decide) rfl ?_
  refine J_iand (pc1 := 12) dX3_isCut_11 rfl ?_
  refine J_iconst (v := 1) (pc1 := 13) dX3_isCut_12 (by decide) rfl ?_
  refine J_icmp_ne (tgt := 20) (pc1 := 16) dX3_isCut_13 (by decide) (fun q1 => ?_) rfl (fun q1 => ?_)
  · rw [if_neg q1] at h
    refine J_iconst (v := 0) (pc1 := 21) dX3_isCut_20 (by decide) rfl ?_
    cases h
    exact J_zret (by decide) hr hlk dX3_isCut_21
  · rw [if_pos q1] at h
    refine J_iconst (v := 1) (pc1 := 17) dX3_isCut_16 (by decide) rfl ?_
    refine J_goto (tgt := 21) dX3_isCut_17 (by decide) ?_
    cases h
    exact J_zret (by decide) hr hlk dX3_isCut_21
def mX3_post (nc : Nat) (q0 : Nat) (μ : gM) : Option gM :=
  gLet (α := gM) (w3 μ 9 q0 6 ((μ 9 q0 6) + 1)) fun μ1 =>
  gJon (fun (u6 : Unit) =>
      gLet (α := gM) (w3 μ1 9 q0 7 ((μ1 9 q0 7) + 1)) fun μ4 =>
      some μ4) fun j3 =>
  if (μ1 9 q0 3) < 0 then
    j3 () 
  else
    if 40 ≤ (μ1 9 q0 3) then
      j3 () 
    else
      gLet (α := Nat) ((μ1 9 q0 1).toNatClampNeg) fun t9 =>
      gChk (t9 < 42 * nc) <|
      gLet (α := Nat) ((μ1 9 q0 1).toNatClampNeg) fun t12 =>
      gChk (t12 < 42 * nc) <|
      gBp (mX3_isCut nc q0 (μ1 19 t9 5) (μ1 19 t12 6) μ1) fun r16 =>
      if r16 = 0 then
        gChk (inb (μ1 9 q0 3) 40) <|
        gLet (α := Nat) ((μ1 10 q0 ((μ1 9 q0 3).toNatClampNeg)).toNatClampNeg) fun t19 =>
        gChk (t19 < 42 * nc) <|
        gLet (α := Nat) ((μ1 9 q0 1).toNatClampNeg) fun t22 =>
        gChk (t22 < 42 * nc) <|
        gChk (inb (μ1 9 q0 3) 40) <|
        gLet (α := gM) (w3 μ1 10 q0 ((μ1 9 q0 3).toNatClampNeg) (nI t22)) fun μ26 =>
        gLet (α := gM) (w3 μ26 9 q0 1 (nI t19)) fun μ28 =>
        gLet (α := gM) (w3 μ28 9 q0 3 ((μ28 9 q0 3) + 1)) fun μ30 =>
        some μ30
      else
        j3 () 
set_option maxHeartbeats 4000000 in
set_option maxRecDepth 100000 in
theorem kX3_post (l : Launch) (D : va_G) (tc : Nat → ClassId) (sa : Nat → Nat) (ad : Nat → Nat → Nat) (nc : Nat) (hnc : 0 < nc ∧ nc ≤ 2) (hI : gI (gE_C nc) ad) (q0 : Nat) (hq0 : q0 < nc) (μ : gM) (μ' : gM) (h : mX3_post nc q0 μ = some μ') : gMet l yX3_post cX3_post 2 (none) ({ frames := 1, cells := 0, slots := 0, locals := 22 } : Room) D (gE_C nc) gkd_C tc ad (grh_C nc) sa [.ref (ad 9 q0)] μ (none) μ' := by
  refine gMet_of hI ⟨by decide +kernel, Nat.le_of_ble_eq_true rfl⟩ (fun p e s m args below meth c sz hr hlk => ?_)
  unfold mX3_post at h
  show JC p l e ({ frames := 1, cells := 0, slots := 0, locals := 22 } : Room) s m args below meth c cX3_post 2 RX3 D tc sa ad nc sz (none) μ' μ 0 [(0, .ref (ad 9 q0))] []
  refine J_aload_n (i := 0) (q := 0) (pc1 := 1) dX3_post_0 rfl rfl rfl ?_
  refine J_dup (pc1 := 2) dX3_post_1 rfl rfl ?_
  refine J_getI (T := TX3) (pc1 := 5) (eC9 hq0) rfl rfl inX3 6 (by decide) rfl flX3_35 rfl dX3_post_2 rfl ?_
  refine J_iconst (v := 1) (pc1 := 6) dX3_post_5 (by decide) rfl ?_
  refine J_iadd (pc1 := 7) dX3_post_6 rfl ?_
  refine J_putI (T := TX3) (pc1 := 10) (eC9 hq0) rfl rfl inX3 tyX3 tyX3_ok nmX3 6 (by decide) rfl (gHrl9 (by decide) (by decide)) flX3_35 rfl rfl rfl rfl dX3_post_7 rfl ?_
  obtain ⟨μ1, e2, h⟩ := gLet_s h
  rw [← e2]
  clear e2
  refine J_aload_n (i := 0) (q := 0) (pc1 := 11) dX3_post_10 rfl rfl rfl ?_
  refine J_getI (T := TX3) (pc1 := 14) (eC9 hq0) rfl rfl inX3 3 (by decide) rfl flX3_25 rfl dX3_post_11 rfl ?_
  obtain ⟨j3, ej3, h⟩ := gJon_s h
  have kj3 : ∀ (u6 : Unit), j3 u6 = some μ' → JC p l e ({ frames := 1, cells := 0, slots := 0, locals := 22 } : Room) s m args below meth c cX3_post 2 RX3 D tc sa ad nc sz (none) μ' μ1 47 [(0, .ref (ad 9 q0))] [] := by
    intro u6 h
    rw [ej3] at h
    try dsimp only at h
    refine J_aload_n (i := 0) (q := 0) (pc1 := 48) dX3_post_47 rfl rfl rfl ?_
    refine J_dup (pc1 := 49) dX3_post_48 rfl rfl ?_
    refine J_getI (T := TX3) (pc1 := 52) (eC9 hq0) rfl rfl inX3 7 (by decide) rfl flX3_38 rfl dX3_post_49 rfl ?_
    refine J_iconst (v := 1) (pc1 := 53) dX3_post_52 (by decide) rfl ?_
    refine J_iadd (pc1 := 54) dX3_post_53 rfl ?_
    refine J_putI (T := TX3) (pc1 := 57) (eC9 hq0) rfl rfl inX3 tyX3 tyX3_ok nmX3 7 (by decide) rfl (gHrl9 (by decide) (by decide)) flX3_38 rfl rfl rfl rfl dX3_post_54 rfl ?_
    obtain ⟨μ4, e5, h⟩ := gLet_s h
    rw [← e5]
    clear e5
    cases h
    exact J_vret hr hlk dX3_post_57
  clear ej3
  refine J_if_lt (tgt := 47) (pc1 := 17) dX3_post_14 (by decide) (fun q7 => ?_) rfl (fun q7 => ?_)
  · rw [if_pos q7] at h
    exact kj3 ()  h
  · rw [if_neg q7] at h
    refine J_aload_n (i := 0) (q := 0) (pc1 := 18) dX3_post_17 rfl rfl rfl ?_
    refine J_getI (T := TX3) (pc1 := 21) (eC9 hq0) rfl rfl inX3 3 (by decide) rfl flX3_25 rfl dX3_post_18 rfl ?_
    refine J_bipush (v := 40) (pc1 := 23) dX3_post_21 (by decide) rfl ?_
    refine J_icmp_ge (tgt := 47) (pc1 := 26) dX3_post_23 (by decide) (fun q8 => ?_) rfl (fun q8 => ?_)
    · rw [if_pos q8] at h
      exact kj3 ()  h
    · rw [if_neg q8] at h
      refine J_aload_n (i := 0) (q := 0) (pc1 := 27) dX3_post_26 rfl rfl rfl ?_
      refine J_aload_n (i := 0) (q := 0) (pc1 := 28) dX3_post_27 rfl rfl rfl ?_
      obtain ⟨t9, e10, h⟩ := gLet_s h
      obtain ⟨h11, h⟩ := gChk_s h
      refine J_getR (T := TX3) (f' := 19) (i' := t9) (pc1 := 31) (eC9 hq0) rfl rfl inX3 1 (by decide) rfl (by rw [e10]; rfl) flX3_18 rfl dX3_post_28 rfl ?_
      refine J_getI (T := TX2) (pc1 := 34) (eC19 h11) rfl rfl inX2 5 (by decide) rfl flX3_48 rfl dX3_post_31 rfl ?_
      refine J_aload_n (i := 0) (q := 0) (pc1 := 35) dX3_post_34 rfl rfl rfl ?_
      obtain ⟨t12, e13, h⟩ := gLet_s h
      obtain ⟨h14, h⟩ := gChk_s h
      refine J_getR (T := TX3) (f' := 19) (i' := t12) (pc1 := 38) (eC9 hq0) rfl rfl inX3 1 (by decide) rfl (by rw [e13]; rfl) flX3_18 rfl dX3_post_35 rfl ?_
      refine J_getI (T := TX2) (pc1 := 41) (eC19 h14) rfl rfl inX2 6 (by decide) rfl flX3_51 rfl dX3_post_38 rfl ?_
      obtain ⟨r16, hc15, h⟩ := gBp_s h
      refine J_callV (As := [.int (μ1 19 t9 5), .int (μ1 19 t12 6)]) (ad := ad) (f := 9) (i := q0) (st := []) (st1 := [.int r16]) (pc1 := 44) (kX3_isCut l D tc sa ad nc hnc hI q0 hq0 (μ1 19 t9 5) (μ1 19 t12 6) μ1 r16 hc15) wcX3_isCut wlX3_54 (eC9 hq0) rfl rfl rfl ⟨rfl, rfl, Nat.le_of_ble_eq_true rfl, Nat.le_of_ble_eq_true rfl⟩ ⟨Nat.zero_le _, Nat.zero_le _⟩ (Nat.le_of_ble_eq_true rfl) dX3_post_41 rfl rfl ?_
      refine J_if_eq (tgt := 58) (pc1 := 47) dX3_post_44 (by decide) (fun q17 => ?_) rfl (fun q17 => ?_)
      · rw [if_pos q17] at h
        refine J_aload_n (i := 0) (q := 0) (pc1 := 59) dX3_post_58 rfl rfl rfl ?_
        refine J_getR (T := TX3) (f' := 10) (i' := q0) (pc1 := 62) (eC9 hq0) rfl rfl inX3 0 (by decide) rfl rfl flX3_11 rfl dX3_post_59 rfl ?_
        refine J_aload_n (i := 0) (q := 0) (pc1 := 63) dX3_post_62 rfl rfl rfl ?_
        refine J_getI (T := TX3) (pc1 := 66) (eC9 hq0) rfl rfl inX3 3 (by decide) rfl flX3_25 rfl dX3_post_63 rfl ?_
        obtain ⟨h18, h⟩ := gChk_s h
        obtain ⟨t19, e20, h⟩ := gLet_s h
        obtain ⟨h21, h⟩ := gChk_s h
        refine J_aald (f' := 19) (i' := t19) (pc1 := 67) (eC10 hq0) rfl rfl h18 (by rw [e20]; rfl) dX3_post_66 rfl ?_
        refine J_astore_n (i := 1) (lv1 := [(1, .ref (ad 19 t19)), (0, .ref (ad 9 q0))]) (pc1 := 68) dX3_post_67 rfl (by decide) rfl rfl ?_
        refine J_aload_n (i := 0) (q := 1) (pc1 := 69) dX3_post_68 rfl rfl rfl ?_
        refine J_getR (T := TX3) (f' := 10) (i' := q0) (pc1 := 72) (eC9 hq0) rfl rfl inX3 0 (by decide) rfl rfl flX3_11 rfl dX3_post_69 rfl ?_
        refine J_aload_n (i := 0) (q := 1) (pc1 := 73) dX3_post_72 rfl rfl rfl ?_
        refine J_getI (T := TX3) (pc1 := 76) (eC9 hq0) rfl rfl inX3 3 (by decide) rfl flX3_25 rfl dX3_post_73 rfl ?_
        refine J_aload_n (i := 0) (q := 1) (pc1 := 77) dX3_post_76 rfl rfl rfl ?_
        obtain ⟨t22, e23, h⟩ := gLet_s h
        obtain ⟨h24, h⟩ := gChk_s h
        refine J_getR (T := TX3) (f' := 19) (i' := t22) (pc1 := 80) (eC9 hq0) rfl rfl inX3 1 (by decide) rfl (by rw [e23]; rfl) flX3_18 rfl dX3_post_77 rfl ?_
        obtain ⟨h25, h⟩ := gChk_s h
        refine J_aast (v := nI t22) (pc1 := 81) (eC10 hq0) rfl rfl (eC19 h24) rfl rfl h25 (gAstM hnc.2 h24) dX3_post_80 rfl ?_
        obtain ⟨μ26, e27, h⟩ := gLet_s h
        rw [← e27]
        clear e27
        refine J_aload_n (i := 0) (q := 1) (pc1 := 82) dX3_post_81 rfl rfl rfl ?_
        refine J_aload_n (i := 1) (q := 0) (pc1 := 83) dX3_post_82 rfl rfl rfl ?_
        refine J_putR (f' := 19) (i' := t19) (v := nI t19) (T := TX3) (pc1 := 86) (eC9 hq0) rfl rfl inX3 tyX3 tyX3_ok nmX3 1 (by decide) rfl (gPutM1 hnc.2 h21) flX3_18 rfl rfl rfl rfl dX3_post_83 rfl ?_
        obtain ⟨μ28, e29, h⟩ := gLet_s h
        rw [← e29]
        clear e29
        refine J_aload_n (i := 0) (q := 1) (pc1 := 87) dX3_post_86 rfl rfl rfl ?_
        refine J_dup (pc1 := 88) dX3_post_87 rfl rfl ?_
        refine J_getI (T := TX3) (pc1 := 91) (eC9 hq0) rfl rfl inX3 3 (by decide) rfl flX3_25 rfl dX3_post_88 rfl ?_
        refine J_iconst (v := 1) (pc1 := 92) dX3_post_91 (by decide) rfl ?_
        refine J_iadd (pc1 := 93) dX3_post_92 rfl ?_
        refine J_putI (T := TX3) (pc1 := 96) (eC9 hq0) rfl rfl inX3 tyX3 tyX3_ok nmX3 3 (by decide) rfl (gHrl9 (by decide) (by decide)) flX3_25 rfl rfl rfl rfl dX3_post_93 rfl ?_
        obtain ⟨μ30, e31, h⟩ := gLet_s h
        rw [← e31]
        clear e31
        cases h
        exact J_vret hr hlk dX3_post_96
      · rw [if_neg q17] at h
        exact kj3 ()  h
def mX4_lead (nc : Nat) (n0 : Nat) (μ : gM) : Option gM :=
  gLet (α := gM) (w3 μ 11 n0 6 2) fun μ1 =>
  gLet (α := gM) (w3 μ1 11 n0 10 3) fun μ3 =>
  gJon (fun (μ5 : gM) =>
      some μ5) fun j6 =>
  gFx2 (fun rec9 (x7 : Int32) (μ8 : gM) =>
      if 5 ≤ x7 then
        j6 μ8
      else
        gBp (mX1_lastIndex nc n0 μ8) fun r12 =>
        gChk (inb x7 5) <|
        gLet (α := gM) (w3 μ8 13 n0 (x7.toNatClampNeg) (r12 + 1)) fun μ14 =>
        gChk (inb x7 5) <|
        gLet (α := gM) (w3 μ14 14 n0 (x7.toNatClampNeg) 0) fun μ17 =>
        gChk (inb x7 5) <|
        gLet (α := gM) (w3 μ17 15 n0 (x7.toNatClampNeg) (-1)) fun μ20 =>
        rec9 (x7 + 1) μ20) 1000000 0 μ3
set_option maxHeartbeats 4000000 in
set_option maxRecDepth 100000 in
theorem kX4_lead (l : Launch) (D : va_G) (tc : Nat → ClassId) (sa : Nat → Nat) (ad : Nat → Nat → Nat) (nc : Nat) (hnc : 0 < nc ∧ nc ≤ 2) (hI : gI (gE_C nc) ad) (n0 : Nat) (hn0 : n0 < 5 * nc) (μ : gM) (μ' : gM) (h : mX4_lead nc n0 μ = some μ') : gMet l yX4_lead cX4_lead 2 (none) ({ frames := 1, cells := 0, slots := 0, locals := 20 } : Room) D (gE_C nc) gkd_C tc ad (grh_C nc) sa [.ref (ad 11 n0)] μ (none) μ' := by
  refine gMet_of hI ⟨by decide +kernel, Nat.le_of_ble_eq_true rfl⟩ (fun p e s m args below meth c sz hr hlk => ?_)
  unfold mX4_lead at h
  show JC p l e ({ frames := 1, cells := 0, slots := 0, locals := 20 } : Room) s m args below meth c cX4_lead 2 RX4 D tc sa ad nc sz (none) μ' μ 0 [(0, .ref (ad 11 n0))] []
  refine J_aload_n (i := 0) (q := 0) (pc1 := 1) dX4_lead_0 rfl rfl rfl ?_
  refine J_iconst (v := 2) (pc1 := 2) dX4_lead_1 (by decide) rfl ?_
  refine J_putI (T := TX4) (pc1 := 5) (eC11 hn0) rfl rfl inX4 tyX4 tyX4_ok nmX4 6 (by decide) rfl (fun _ _ _ _ => gh11) flX4_40 rfl rfl rfl rfl dX4_lead_2 rfl ?_
  obtain ⟨μ1, e2, h⟩ := gLet_s h
  rw [← e2]
  clear e2
  refine J_aload_n (i := 0) (q := 0) (pc1 := 6) dX4_lead_5 rfl rfl rfl ?_
  refine J_iconst (v := 3) (pc1 := 7) dX4_lead_6 (by decide) rfl ?_
  refine J_putI (T := TX4) (pc1 := 10) (eC11 hn0) rfl rfl inX4 tyX4 tyX4_ok nmX4 10 (by decide) rfl (fun _ _ _ _ => gh11) flX4_65 rfl rfl rfl rfl dX4_lead_7 rfl ?_
  obtain ⟨μ3, e4, h⟩ := gLet_s h
  rw [← e4]
  clear e4
  refine J_iconst (v := 0) (pc1 := 11) dX4_lead_10 (by decide) rfl ?_
  refine J_istore_n (i := 1) (lv1 := [(1, .int 0), (0, .ref (ad 11 n0))]) (pc1 := 12) dX4_lead_11 rfl (by decide) rfl rfl ?_
  obtain ⟨j6, ej6, h⟩ := gJon_s h
  have kj6 : ∀ (μ5 : gM), j6 μ5 = some μ' → JC p l e ({ frames := 1, cells := 0, slots := 0, locals := 20 } : Room) s m args below meth c cX4_lead 2 RX4 D tc sa ad nc sz (none) μ' μ5 52 [] [] := by
    intro μ5 h
    rw [ej6] at h
    try dsimp only at h
    cases h
    exact J_vret hr hlk dX4_lead_52
  clear ej6
  refine J_sub [1, 0] (lv1 := [(0, .ref (ad 11 n0)), (1, .int 0)]) rfl ?_
  refine gFx2_s (P := fun x7 μ8 => JC p l e ({ frames := 1, cells := 0, slots := 0, locals := 20 } : Room) s m args below meth c cX4_lead 2 RX4 D tc sa ad nc sz (none) μ' μ8 12 [(0, .ref (ad 11 n0)), (1, .int x7)] []) (fun rec9 ihrec9 x7 μ8 h => ?_) _ _ _ h
  try dsimp only at h
  refine J_iload_n (i := 1) (q := 1) (pc1 := 13) dX4_lead_12 rfl rfl rfl ?_
  refine J_iconst (v := 5) (pc1 := 14) dX4_lead_13 (by decide) rfl ?_
  refine J_icmp_ge (tgt := 52) (pc1 := 17) dX4_lead_14 (by decide) (fun q10 => ?_) rfl (fun q10 => ?_)
  · rw [if_pos q10] at h
    refine J_sub [] (lv1 := []) rfl ?_
    exact kj6 _ h
  · rw [if_neg q10] at h
    refine J_aload_n (i := 0) (q := 0) (pc1 := 18) dX4_lead_17 rfl rfl rfl ?_
    refine J_getR (T := TX4) (f' := 13) (i' := n0) (pc1 := 21) (eC11 hn0) rfl rfl inX4 2 (by decide) rfl rfl flX4_22 rfl dX4_lead_18 rfl ?_
    refine J_iload_n (i := 1) (q := 1) (pc1 := 22) dX4_lead_21 rfl rfl rfl ?_
    refine J_aload_n (i := 0) (q := 0) (pc1 := 23) dX4_lead_22 rfl rfl rfl ?_
    refine J_getR (T := TX4) (f' := 12) (i' := n0) (pc1 := 26) (eC11 hn0) rfl rfl inX4 1 (by decide) rfl rfl flX4_18 rfl dX4_lead_23 rfl ?_
    obtain ⟨r12, hc11, h⟩ := gBp_s h
    refine J_callV (As := []) (ad := ad) (f := 12) (i := n0) (st := [.int x7, .ref (ad 13 n0)]) (st1 := [.int r12, .int x7, .ref (ad 13 n0)]) (pc1 := 29) (kX1_lastIndex l D tc sa ad nc hnc hI n0 hn0 μ8 r12 hc11) wcX1_lastIndex wlX4_68 (eC12 hn0) rfl rfl rfl ⟨rfl, rfl, Nat.le_of_ble_eq_true rfl, Nat.le_of_ble_eq_true rfl⟩ ⟨Nat.zero_le _, Nat.zero_le _⟩ (Nat.le_of_ble_eq_true rfl) dX4_lead_26 rfl rfl ?_
    refine J_iconst (v := 1) (pc1 := 30) dX4_lead_29 (by decide) rfl ?_
    refine J_iadd (pc1 := 31) dX4_lead_30 rfl ?_
    obtain ⟨h13, h⟩ := gChk_s h
    refine J_iast (ix := (x7.toNatClampNeg)) (pc1 := 32) rfl (eC13 hn0) rfl h13 dX4_lead_31 rfl ?_
    obtain ⟨μ14, e15, h⟩ := gLet_s h
    rw [← e15]
    clear e15
    refine J_aload_n (i := 0) (q := 0) (pc1 := 33) dX4_lead_32 rfl rfl rfl ?_
    refine J_getR (T := TX4) (f' := 14) (i' := n0) (pc1 := 36) (eC11 hn0) rfl rfl inX4 3 (by decide) rfl rfl flX4_26 rfl dX4_lead_33 rfl ?_
    refine J_iload_n (i := 1) (q := 1) (pc1 := 37) dX4_lead_36 rfl rfl rfl ?_
    refine J_iconst (v := 0) (pc1 := 38) dX4_lead_37 (by decide) rfl ?_
    obtain ⟨h16, h⟩ := gChk_s h
    refine J_iast (ix := (x7.toNatClampNeg)) (pc1 := 39) rfl (eC14 hn0) rfl h16 dX4_lead_38 rfl ?_
    obtain ⟨μ17, e18, h⟩ := gLet_s h
    rw [← e18]
    clear e18
    refine J_aload_n (i := 0) (q := 0) (pc1 := 40) dX4_lead_39 rfl rfl rfl ?_
    refine J_getR (T := TX4) (f' := 15) (i' := n0) (pc1 := 43) (eC11 hn0) rfl rfl inX4 4 (by decide) rfl rfl flX4_29 rfl dX4_lead_40 rfl ?_
    refine J_iload_n (i := 1) (q := 1) (pc1 := 44) dX4_lead_43 rfl rfl rfl ?_
    refine J_iconst (v := (-1)) (pc1 := 45) dX4_lead_44 (by decide) rfl ?_
    obtain ⟨h19, h⟩ := gChk_s h
    refine J_iast (ix := (x7.toNatClampNeg)) (pc1 := 46) rfl (eC15 hn0) rfl h19 dX4_lead_45 rfl ?_
    obtain ⟨μ20, e21, h⟩ := gLet_s h
    rw [← e21]
    clear e21
    refine J_iinc (i := 1) (q := 1) (v := x7 + 1) (lv1 := [(1, .int (x7 + 1)), (0, .ref (ad 11 n0))]) (pc1 := 49) dX4_lead_46 rfl rfl (by decide) rfl rfl ?_
    refine J_goto (tgt := 12) dX4_lead_49 (by decide) ?_
    refine J_sub [1, 0] (lv1 := [(0, .ref (ad 11 n0)), (1, .int (x7 + 1))]) rfl ?_
    exact ihrec9 _ _ h
def mX4_holders (nc : Nat) (n0 : Nat) (a1 : Int32) (μ : gM) : Option Int32 :=
  gLet (α := Int32) (1 <<< ((μ 11 n0 0) &&& 31)) fun x1 =>
  gJon (fun (x5 : Int32) =>
      some x5) fun j6 =>
  gFx2 (fun rec9 (x7 : Int32) (x8 : Int32) =>
      if 5 ≤ x8 then
        j6 x7
      else
        gChk (inb x8 5) <|
        if (μ 14 n0 (x8.toNatClampNeg)) < a1 then
          rec9 x7 (x8 + 1)
        else
          gLet (α := Int32) (x7 ||| (1 <<< (x8 &&& 31))) fun x13 =>
          rec9 x13 (x8 + 1)) 1000000 x1 0
set_option maxHeartbeats 4000000 in
set_option maxRecDepth 100000 in
theorem kX4_holders (l : Launch) (D : va_G) (tc : Nat → ClassId) (sa : Nat → Nat) (ad : Nat → Nat → Nat) (nc : Nat) (hnc : 0 < nc ∧ nc ≤ 2) (hI : gI (gE_C nc) ad) (n0 : Nat) (hn0 : n0 < 5 * nc) (a1 : Int32) (μ : gM) (r : Int32) (h : mX4_holders nc n0 a1 μ = some r) : gMet l yX4_holders cX4_holders 4 (some .int) ({ frames := 0, cells := 0, slots := 0, locals := 0 } : Room) D (gE_C nc) gkd_C tc ad (grh_C nc) sa [.ref (ad 11 n0), .int a1] μ (some (.int r)) μ := by
  refine gMet_of hI ⟨by decide +kernel, Nat.le_of_ble_eq_true rfl⟩ (fun p e s m args below meth c sz hr hlk => ?_)
  unfold mX4_holders at h
  show JC p l e ({ frames := 0, cells := 0, slots := 0, locals := 0 } : Room) s m args below meth c cX4_holders 4 RX4 D tc sa ad nc sz (some (.int r)) μ μ 0 [(0, .ref (ad 11 n0)), (1, .int a1)] []
  refine J_iconst (v := 1) (pc1 := 1) dX4_holders_0 (by decide) rfl ?_
  refine J_aload_n (i := 0) (q := 0) (pc1 := 2) dX4_holders_1 rfl rfl rfl ?_
  refine J_getI (T := TX4) (pc1 := 5) (eC11 hn0) rfl rfl inX4 0 (by decide) rfl flX4_9 rfl dX4_holders_2 rfl ?_
  refine J_ishl (pc1 := 6) dX4_holders_5 rfl ?_
  obtain ⟨x1, e3, h⟩ := gLet_s h
  refine J_top (fun y2 e4 => ?_)
  have e4x : x1 = y2 := (e4.trans e3.symm).symm
  subst e4x
  refine J_istore_n (i := 2) (lv1 := [(2, .int x1), (0, .ref (ad 11 n0)), (1, .int a1)]) (pc1 := 7) dX4_holders_6 rfl (by decide) rfl rfl ?_
  refine J_iconst (v := 0) (pc1 := 8) dX4_holders_7 (by decide) rfl ?_
  refine J_istore_n (i := 3) (lv1 := [(3, .int 0), (2, .int x1), (0, .ref (ad 11 n0)), (1, .int a1)]) (pc1 := 9) dX4_holders_8 rfl (by decide) rfl rfl ?_
  obtain ⟨j6, ej6, h⟩ := gJon_s h
  have kj6 : ∀ (x5 : Int32), j6 x5 = some r → JC p l e ({ frames := 0, cells := 0, slots := 0, locals := 0 } : Room) s m args below meth c cX4_holders 4 RX4 D tc sa ad nc sz (some (.int r)) μ μ 36 [(2, .int x5)] [] := by
    intro x5 h
    rw [ej6] at h
    try dsimp only at h
    refine J_iload_n (i := 2) (q := 0) (pc1 := 37) dX4_holders_36 rfl rfl rfl ?_
    cases h
    exact J_iret hr hlk dX4_holders_37
  clear ej6
  refine J_sub [2, 3, 1, 0] (lv1 := [(0, .ref (ad 11 n0)), (1, .int a1), (2, .int x1), (3, .int 0)]) rfl ?_
  refine gFx2_s (P := fun x7 x8 => JC p l e ({ frames := 0, cells := 0, slots := 0, locals := 0 } : Room) s m args below meth c cX4_holders 4 RX4 D tc sa ad nc sz (some (.int r)) μ μ 9 [(0, .ref (ad 11 n0)), (1, .int a1), (2, .int x7), (3, .int x8)] []) (fun rec9 ihrec9 x7 x8 h => ?_) _ _ _ h
  try dsimp only at h
  refine J_iload_n (i := 3) (q := 3) (pc1 := 10) dX4_holders_9 rfl rfl rfl ?_
  refine J_iconst (v := 5) (pc1 := 11) dX4_holders_10 (by decide) rfl ?_
  refine J_icmp_ge (tgt := 36) (pc1 := 14) dX4_holders_11 (by decide) (fun q10 => ?_) rfl (fun q10 => ?_)
  · rw [if_pos q10] at h
    refine J_sub [2] (lv1 := [(2, .int x7)]) rfl ?_
    exact kj6 _ h
  · rw [if_neg q10] at h
    refine J_aload_n (i := 0) (q := 0) (pc1 := 15) dX4_holders_14 rfl rfl rfl ?_
    refine J_getR (T := TX4) (f' := 14) (i' := n0) (pc1 := 18) (eC11 hn0) rfl rfl inX4 3 (by decide) rfl rfl flX4_26 rfl dX4_holders_15 rfl ?_
    refine J_iload_n (i := 3) (q := 3) (pc1 := 19) dX4_holders_18 rfl rfl rfl ?_
    obtain ⟨h11, h⟩ := gChk_s h
    refine J_iald (ix := (x8.toNatClampNeg)) (pc1 := 20) rfl (eC14 hn0) rfl h11 dX4_holders_19 rfl ?_
    refine J_iload_n (i := 1) (q := 1) (pc1 := 21) dX4_holders_20 rfl rfl rfl ?_
    refine J_icmp_lt (tgt := 30) (pc1 := 24) dX4_holders_21 (by decide) (fun q12 => ?_) rfl (fun q12 => ?_)
    · rw [if_pos q12] at h
      refine J_iinc (i := 3) (q := 3) (v := x8 + 1) (lv1 := [(3, .int (x8 + 1)), (0, .ref (ad 11 n0)), (1, .int a1), (2, .int x7)]) (pc1 := 33) dX4_holders_30 rfl rfl (by decide) rfl rfl ?_
      refine J_goto (tgt := 9) dX4_holders_33 (by decide) ?_
      refine J_sub [1, 2, 3, 0] (lv1 := [(0, .ref (ad 11 n0)), (1, .int a1), (2, .int x7), (3, .int (x8 + 1))]) rfl ?_
      exact ihrec9 _ _ h
    · rw [if_neg q12] at h
      refine J_iload_n (i := 2) (q := 2) (pc1 := 25) dX4_holders_24 rfl rfl rfl ?_
      refine J_iconst (v := 1) (pc1 := 26) dX4_holders_25 (by decide) rfl ?_
      refine J_iload_n (i := 3) (q := 3) (pc1 := 27) dX4_holders_26 rfl rfl rfl ?_
      refine J_ishl (pc1 := 28) dX4_holders_27 rfl ?_
      refine J_ior (pc1 := 29) dX4_holders_28 rfl ?_
      obtain ⟨x13, e15, h⟩ := gLet_s h
      refine J_top (fun y14 e16 => ?_)
      have e16x : x13 = y14 := (e16.trans e15.symm).symm
      subst e16x
      refine J_istore_n (i := 2) (lv1 := [(2, .int x13), (0, .ref (ad 11 n0)), (1, .int a1), (3, .int x8)]) (pc1 := 30) dX4_holders_29 rfl (by decide) rfl rfl ?_
      refine J_iinc (i := 3) (q := 3) (v := x8 + 1) (lv1 := [(3, .int (x8 + 1)), (2, .int x13), (0, .ref (ad 11 n0)), (1, .int a1)]) (pc1 := 33) dX4_holders_30 rfl rfl (by decide) rfl rfl ?_
      refine J_goto (tgt := 9) dX4_holders_33 (by decide) ?_
      refine J_sub [2, 3, 1, 0] (lv1 := [(0, .ref (ad 11 n0)), (1, .int a1), (2, .int x13), (3, .int (x8 + 1))]) rfl ?_
      exact ihrec9 _ _ h
def mX4_isConfigurationCommitted (nc : Nat) (n0 : Nat) (μ : gM) : Option Int32 :=
  if (μ 11 n0 9) < (μ 12 n0 9) then
    some 0
  else
    some 1
set_option maxHeartbeats 4000000 in
set_option maxRecDepth 100000 in
theorem kX4_isConfigurationCommitted (l : Launch) (D : va_G) (tc : Nat → ClassId) (sa : Nat → Nat) (ad : Nat → Nat → Nat) (nc : Nat) (hnc : 0 < nc ∧ nc ≤ 2) (hI : gI (gE_C nc) ad) (n0 : Nat) (hn0 : n0 < 5 * nc) (μ : gM) (r : Int32) (h : mX4_isConfigurationCommitted nc n0 μ = some r) : gMet l yX4_isConfigurationCommitted cX4_isConfigurationCommitted 1 (some .boolean) ({ frames := 0, cells := 0, slots := 0, locals := 0 } : Room) D (gE_C nc) gkd_C tc ad (grh_C nc) sa [.ref (ad 11 n0)] μ (some (.int r)) μ := by
  refine gMet_of hI ⟨by decide +kernel, Nat.le_of_ble_eq_true rfl⟩ (fun p e s m args below meth c sz hr hlk => ?_)
  unfold mX4_isConfigurationCommitted at h
  show JC p l e ({ frames := 0, cells := 0, slots := 0, locals := 0 } : Room) s m args below meth c cX4_isConfigurationCommitted 1 RX4 D tc sa ad nc sz (some (.int r)) μ μ 0 [(0, .ref (ad 11 n0))] []
  refine J_aload_n (i := 0) (q := 0) (pc1 := 1) dX4_isConfigurationCommitted_0 rfl rfl rfl ?_
  refine J_getR (T := TX4) (f' := 12) (i' := n0) (pc1 := 4) (eC11 hn0) rfl rfl inX4 1 (by decide) rfl rfl flX4_18 rfl dX4_isConfigurationCommitted_1 rfl ?_
  refine J_getI (T := TX1) (pc1 := 7) (eC12 hn0) rfl rfl inX1 9 (by decide) rfl flX4_76 rfl dX4_isConfigurationCommitted_4 rfl ?_
  refine J_aload_n (i := 0) (q := 0) (pc1 := 8) dX4_isConfigurationCommitted_7 rfl rfl rfl ?_
  refine J_getI (T := TX4) (pc1 := 11) (eC11 hn0) rfl rfl inX4 9 (by decide) rfl flX4_49 rfl dX4_isConfigurationCommitted_8 rfl ?_
  refine J_icmp_gt (tgt := 18) (pc1 := 14) dX4_isConfigurationCommitted_11 (by decide) (fun q1 => ?_) rfl (fun q1 => ?_)
  · rw [if_pos q1] at h
    refine J_iconst (v := 0) (pc1 := 19) dX4_isConfigurationCommitted_18 (by decide) rfl ?_
    cases h
    exact J_zret (by decide) hr hlk dX4_isConfigurationCommitted_19
  · rw [if_neg q1] at h
    refine J_iconst (v := 1) (pc1 := 15) dX4_isConfigurationCommitted_14 (by decide) rfl ?_
    refine J_goto (tgt := 19) dX4_isConfigurationCommitted_15 (by decide) ?_
    cases h
    exact J_zret (by decide) hr hlk dX4_isConfigurationCommitted_19
def mX4_isMember (nc : Nat) (n0 : Nat) (μ : gM) : Option Int32 :=
  gBp (mX1_isMember nc n0 (μ 11 n0 0) μ) fun r2 =>
  gChk (r2 = 0 ∨ r2 = 1) <|
  some r2
set_option maxHeartbeats 4000000 in
set_option maxRecDepth 100000 in
theorem kX4_isMember (l : Launch) (D : va_G) (tc : Nat → ClassId) (sa : Nat → Nat) (ad : Nat → Nat → Nat) (nc : Nat) (hnc : 0 < nc ∧ nc ≤ 2) (hI : gI (gE_C nc) ad) (n0 : Nat) (hn0 : n0 < 5 * nc) (μ : gM) (r : Int32) (h : mX4_isMember nc n0 μ = some r) : gMet l yX4_isMember cX4_isMember 1 (some .boolean) ({ frames := 1, cells := 0, slots := 0, locals := 21 } : Room) D (gE_C nc) gkd_C tc ad (grh_C nc) sa [.ref (ad 11 n0)] μ (some (.int r)) μ := by
  refine gMet_of hI ⟨by decide +kernel, Nat.le_of_ble_eq_true rfl⟩ (fun p e s m args below meth c sz hr hlk => ?_)
  unfold mX4_isMember at h
  show JC p l e ({ frames := 1, cells := 0, slots := 0, locals := 21 } : Room) s m args below meth c cX4_isMember 1 RX4 D tc sa ad nc sz (some (.int r)) μ μ 0 [(0, .ref (ad 11 n0))] []
  refine J_aload_n (i := 0) (q := 0) (pc1 := 1) dX4_isMember_0 rfl rfl rfl ?_
  refine J_getR (T := TX4) (f' := 12) (i' := n0) (pc1 := 4) (eC11 hn0) rfl rfl inX4 1 (by decide) rfl rfl flX4_18 rfl dX4_isMember_1 rfl ?_
  refine J_aload_n (i := 0) (q := 0) (pc1 := 5) dX4_isMember_4 rfl rfl rfl ?_
  refine J_getI (T := TX4) (pc1 := 8) (eC11 hn0) rfl rfl inX4 0 (by decide) rfl flX4_9 rfl dX4_isMember_5 rfl ?_
  obtain ⟨r2, hc1, h⟩ := gBp_s h
  refine J_callV (As := [.int (μ 11 n0 0)]) (ad := ad) (f := 12) (i := n0) (st := []) (st1 := [.int r2]) (pc1 := 11) (kX1_isMember l D tc sa ad nc hnc hI n0 hn0 (μ 11 n0 0) μ r2 hc1) wcX1_isMember wlX4_72 (eC12 hn0) rfl rfl rfl ⟨rfl, rfl, Nat.le_of_ble_eq_true rfl, Nat.le_of_ble_eq_true rfl⟩ ⟨Nat.zero_le _, Nat.zero_le _⟩ (Nat.le_of_ble_eq_true rfl) dX4_isMember_8 rfl rfl ?_
  obtain ⟨h3, h⟩ := gChk_s h
  cases h
  exact J_zret h3 hr hlk dX4_isMember_11
def mX3_has (nc : Nat) (q0 : Nat) (a1 : Int32) (μ : gM) : Option Int32 :=
  if a1 < 0 then
    some 0
  else
    if (μ 9 q0 3) ≤ a1 then
      some 0
    else
      if 40 ≤ a1 then
        some 0
      else
        some 1
set_option maxHeartbeats 4000000 in
set_option maxRecDepth 100000 in
theorem kX3_has (l : Launch) (D : va_G) (tc : Nat → ClassId) (sa : Nat → Nat) (ad : Nat → Nat → Nat) (nc : Nat) (hnc : 0 < nc ∧ nc ≤ 2) (hI : gI (gE_C nc) ad) (q0 : Nat) (hq0 : q0 < nc) (a1 : Int32) (μ : gM) (r : Int32) (h : mX3_has nc q0 a1 μ = some r) : gMet l yX3_has cX3_has 2 (some .boolean) ({ frames := 0, cells := 0, slots := 0, locals := 0 } : Room) D (gE_C nc) gkd_C tc ad (grh_C nc) sa [.ref (ad 9 q0), .int a1] μ (some (.int r)) μ := by
  refine gMet_of hI ⟨by decide +kernel, Nat.le_of_ble_eq_true rfl⟩ (fun p e s m args below meth c sz hr hlk => ?_)
  unfold mX3_has at h
  show JC p l e ({ frames := 0, cells := 0, slots := 0, locals := 0 } : Room) s m args below meth c cX3_has 2 RX3 D tc sa ad nc sz (some (.int r)) μ μ 0 [(0, .ref (ad 9 q0)), (1, .int a1)] []
  refine J_iload_n (i := 1) (q := 1) (pc1 := 1) dX3_has_0 rfl rfl rfl ?_
  refine J_if_lt (tgt := 22) (pc1 := 4) dX3_has_1 (by decide) (fun q1 => ?_) rfl (fun q1 => ?_)
  · rw [if_pos q1] at h
    refine J_iconst (v := 0) (pc1 := 23) dX3_has_22 (by decide) rfl ?_
    cases h
    exact J_zret (by decide) hr hlk dX3_has_23
  · rw [if_neg q1] at h
    refine J_iload_n (i := 1) (q := 1) (pc1 := 5) dX3_has_4 rfl rfl rfl ?_
    refine J_aload_n (i := 0) (q := 0) (pc1 := 6) dX3_has_5 rfl rfl rfl ?_
    refine J_getI (T := TX3) (pc1 := 9) (eC9 hq0) rfl rfl inX3 3 (by decide) rfl flX3_25 rfl dX3_has_6 rfl ?_
    refine J_icmp_ge (tgt := 22) (pc1 := 12) dX3_has_9 (by decide) (fun q2 => ?_) rfl (fun q2 => ?_)
    · rw [if_pos q2] at h
      refine J_iconst (v := 0) (pc1 := 23) dX3_has_22 (by decide) rfl ?_
      cases h
      exact J_zret (by decide) hr hlk dX3_has_23
    · rw [if_neg q2] at h
      refine J_iload_n (i := 1) (q := 1) (pc1 := 13) dX3_has_12 rfl rfl rfl ?_
      refine J_bipush (v := 40) (pc1 := 15) dX3_has_13 (by decide) rfl ?_
      refine J_icmp_ge (tgt := 22) (pc1 := 18) dX3_has_15 (by decide) (fun q3 => ?_) rfl (fun q3 => ?_)
      · rw [if_pos q3] at h
        refine J_iconst (v := 0) (pc1 := 23) dX3_has_22 (by decide) rfl ?_
        cases h
        exact J_zret (by decide) hr hlk dX3_has_23
      · rw [if_neg q3] at h
        refine J_iconst (v := 1) (pc1 := 19) dX3_has_18 (by decide) rfl ?_
        refine J_goto (tgt := 23) dX3_has_19 (by decide) ?_
        cases h
        exact J_zret (by decide) hr hlk dX3_has_23
def mX3_setCut (nc : Nat) (q0 : Nat) (a1 : Int32) (a2 : Int32) (a3 : Int32) (μ : gM) : Option gM :=
  gLet (α := Int32) ((1 <<< (((a1 * 5) + a2) &&& 31)) ||| (1 <<< (((a2 * 5) + a1) &&& 31))) fun x1 =>
  gJon (fun (x5 : Int32) =>
      gLet (α := gM) (w3 μ 9 q0 4 x5) fun μ7 =>
      some μ7) fun j6 =>
  if a3 = 0 then
    j6 ((μ 9 q0 4) &&& (x1 ^^^ (-1)))
  else
    j6 ((μ 9 q0 4) ||| x1)
set_option maxHeartbeats 4000000 in
set_option maxRecDepth 100000 in
theorem kX3_setCut (l : Launch) (D : va_G) (tc : Nat → ClassId) (sa : Nat → Nat) (ad : Nat → Nat → Nat) (nc : Nat) (hnc : 0 < nc ∧ nc ≤ 2) (hI : gI (gE_C nc) ad) (q0 : Nat) (hq0 : q0 < nc) (a1 : Int32) (a2 : Int32) (a3 : Int32) (μ : gM) (μ' : gM) (h : mX3_setCut nc q0 a1 a2 a3 μ = some μ') : gMet l yX3_setCut cX3_setCut 5 (none) ({ frames := 0, cells := 0, slots := 0, locals := 0 } : Room) D (gE_C nc) gkd_C tc ad (grh_C nc) sa [.ref (ad 9 q0), .int a1, .int a2, .int a3] μ (none) μ' := by
  refine gMet_of hI ⟨by decide +kernel, Nat.le_of_ble_eq_true rfl⟩ (fun p e s m args below meth c sz hr hlk => ?_)
  unfold mX3_setCut at h
  show JC p l e ({ frames := 0, cells := 0, slots := 0, locals := 0 } : Room) s m args below meth c cX3_setCut 5 RX3 D tc sa ad nc sz (none) μ' μ 0 [(0, .ref (ad 9 q0)), (1, .int a1), (2, .int a2), (3, .int a3)] []
  refine J_iconst (v := 1) (pc1 := 1) dX3_setCut_0 (by decide) rfl ?_
  refine J_iload_n (i := 1) (q := 1) (pc1 := 2) dX3_setCut_1 rfl rfl rfl ?_
  refine J_iconst (v := 5) (pc1 := 3) dX3_setCut_2 (by decide) rfl ?_
  refine J_imul (pc1 := 4) dX3_setCut_3 rfl ?_
  refine J_iload_n (i := 2) (q := 2) (pc1 := 5) dX3_setCut_4 rfl rfl rfl ?_
  refine J_iadd (pc1 := 6) dX3_setCut_5 rfl ?_
  refine J_ishl (pc1 := 7) dX3_setCut_6 rfl ?_
  refine J_iconst (v := 1) (pc1 := 8) dX3_setCut_7 (by decide) rfl ?_
  refine J_iload_n (i := 2) (q := 2) (pc1 := 9) dX3_setCut_8 rfl rfl rfl ?_
  refine J_iconst (v := 5) (pc1 := 10) dX3_setCut_9 (by decide) rfl ?_
  refine J_imul (pc1 := 11) dX3_setCut_10 rfl ?_
  refine J_iload_n (i := 1) (q := 1) (pc1 := 12) dX3_setCut_11 rfl rfl rfl ?_
  refine J_iadd (pc1 := 13) dX3_setCut_12 rfl ?_
  refine J_ishl (pc1 := 14) dX3_setCut_13 rfl ?_
  refine J_ior (pc1 := 15) dX3_setCut_14 rfl ?_
  obtain ⟨x1, e3, h⟩ := gLet_s h
  refine J_top (fun y2 e4 => ?_)
  have e4x : x1 = y2 := (e4.trans e3.symm).symm
  subst e4x
  refine J_istore (i := 4) (lv1 := [(4, .int x1), (0, .ref (ad 9 q0)), (1, .int a1), (2, .int a2), (3, .int a3)]) (pc1 := 17) dX3_setCut_15 (by decide) rfl rfl ?_
  refine J_aload_n (i := 0) (q := 1) (pc1 := 18) dX3_setCut_17 rfl rfl rfl ?_
  refine J_iload_n (i := 3) (q := 4) (pc1 := 19) dX3_setCut_18 rfl rfl rfl ?_
  obtain ⟨j6, ej6, h⟩ := gJon_s h
  have kj6 : ∀ (x5 : Int32), j6 x5 = some μ' → JC p l e ({ frames := 0, cells := 0, slots := 0, locals := 0 } : Room) s m args below meth c cX3_setCut 5 RX3 D tc sa ad nc sz (none) μ' μ 41 [] [.int x5, .ref (ad 9 q0)] := by
    intro x5 h
    rw [ej6] at h
    try dsimp only at h
    refine J_putI (T := TX3) (pc1 := 44) (eC9 hq0) rfl rfl inX3 tyX3 tyX3_ok nmX3 4 (by decide) rfl (gHrl9 (by decide) (by decide)) flX3_29 rfl rfl rfl rfl dX3_setCut_41 rfl ?_
    obtain ⟨μ7, e8, h⟩ := gLet_s h
    rw [← e8]
    clear e8
    cases h
    exact J_vret hr hlk dX3_setCut_44
  clear ej6
  refine J_if_eq (tgt := 32) (pc1 := 22) dX3_setCut_19 (by decide) (fun q9 => ?_) rfl (fun q9 => ?_)
  · rw [if_pos q9] at h
    refine J_aload_n (i := 0) (q := 1) (pc1 := 33) dX3_setCut_32 rfl rfl rfl ?_
    refine J_getI (T := TX3) (pc1 := 36) (eC9 hq0) rfl rfl inX3 4 (by decide) rfl flX3_29 rfl dX3_setCut_33 rfl ?_
    refine J_iload (i := 4) (q := 0) (pc1 := 38) dX3_setCut_36 rfl rfl ?_
    refine J_iconst (v := (-1)) (pc1 := 39) dX3_setCut_38 (by decide) rfl ?_
    refine J_ixor (pc1 := 40) dX3_setCut_39 rfl ?_
    refine J_iand (pc1 := 41) dX3_setCut_40 rfl ?_
    refine J_sub [] (lv1 := []) rfl ?_
    exact kj6 _ h
  · rw [if_neg q9] at h
    refine J_aload_n (i := 0) (q := 1) (pc1 := 23) dX3_setCut_22 rfl rfl rfl ?_
    refine J_getI (T := TX3) (pc1 := 26) (eC9 hq0) rfl rfl inX3 4 (by decide) rfl flX3_29 rfl dX3_setCut_23 rfl ?_
    refine J_iload (i := 4) (q := 0) (pc1 := 28) dX3_setCut_26 rfl rfl ?_
    refine J_ior (pc1 := 29) dX3_setCut_28 rfl ?_
    refine J_goto (tgt := 41) dX3_setCut_29 (by decide) ?_
    refine J_sub [] (lv1 := []) rfl ?_
    exact kj6 _ h
def mX4_goDown (nc : Nat) (n0 : Nat) (μ : gM) : Option gM :=
  gLet (α := gM) (w3 μ 11 n0 5 0) fun μ1 =>
  gLet (α := gM) (w3 μ1 11 n0 6 0) fun μ3 =>
  some μ3
set_option maxHeartbeats 4000000 in
set_option maxRecDepth 100000 in
theorem kX4_goDown (l : Launch) (D : va_G) (tc : Nat → ClassId) (sa : Nat → Nat) (ad : Nat → Nat → Nat) (nc : Nat) (hnc : 0 < nc ∧ nc ≤ 2) (hI : gI (gE_C nc) ad) (n0 : Nat) (hn0 : n0 < 5 * nc) (μ : gM) (μ' : gM) (h : mX4_goDown nc n0 μ = some μ') : gMet l yX4_goDown cX4_goDown 1 (none) ({ frames := 0, cells := 0, slots := 0, locals := 0 } : Room) D (gE_C nc) gkd_C tc ad (grh_C nc) sa [.ref (ad 11 n0)] μ (none) μ' := by
  refine gMet_of hI ⟨by decide +kernel, Nat.le_of_ble_eq_true rfl⟩ (fun p e s m args below meth c sz hr hlk => ?_)
  unfold mX4_goDown at h
  show JC p l e ({ frames := 0, cells := 0, slots := 0, locals := 0 } : Room) s m args below meth c cX4_goDown 1 RX4 D tc sa ad nc sz (none) μ' μ 0 [(0, .ref (ad 11 n0))] []
  refine J_aload_n (i := 0) (q := 0) (pc1 := 1) dX4_goDown_0 rfl rfl rfl ?_
  refine J_iconst (v := 0) (pc1 := 2) dX4_goDown_1 (by decide) rfl ?_
  refine J_putI (T := TX4) (pc1 := 5) (eC11 hn0) rfl rfl inX4 tyX4 tyX4_ok nmX4 5 (by decide) rfl (fun _ _ _ _ => gh11) flX4_36 rfl rfl (by decide) (by decide) dX4_goDown_2 rfl ?_
  obtain ⟨μ1, e2, h⟩ := gLet_s h
  rw [← e2]
  clear e2
  refine J_aload_n (i := 0) (q := 0) (pc1 := 6) dX4_goDown_5 rfl rfl rfl ?_
  refine J_iconst (v := 0) (pc1 := 7) dX4_goDown_6 (by decide) rfl ?_
  refine J_putI (T := TX4) (pc1 := 10) (eC11 hn0) rfl rfl inX4 tyX4 tyX4_ok nmX4 6 (by decide) rfl (fun _ _ _ _ => gh11) flX4_40 rfl rfl rfl rfl dX4_goDown_7 rfl ?_
  obtain ⟨μ3, e4, h⟩ := gLet_s h
  rw [← e4]
  clear e4
  cases h
  exact J_vret hr hlk dX4_goDown_10
def mX4_heardSince (nc : Nat) (n0 : Nat) (a1 : Int32) (μ : gM) : Option Int32 :=
  gLet (α := Int32) (1 <<< ((μ 11 n0 0) &&& 31)) fun x1 =>
  gJon (fun (x5 : Int32) =>
      some x5) fun j6 =>
  gFx2 (fun rec9 (x7 : Int32) (x8 : Int32) =>
      if 5 ≤ x8 then
        j6 x7
      else
        gChk (inb x8 5) <|
        if (μ 15 n0 (x8.toNatClampNeg)) < a1 then
          rec9 x7 (x8 + 1)
        else
          gLet (α := Int32) (x7 ||| (1 <<< (x8 &&& 31))) fun x13 =>
          rec9 x13 (x8 + 1)) 1000000 x1 0
set_option maxHeartbeats 4000000 in
set_option maxRecDepth 100000 in
theorem kX4_heardSince (l : Launch) (D : va_G) (tc : Nat → ClassId) (sa : Nat → Nat) (ad : Nat → Nat → Nat) (nc : Nat) (hnc : 0 < nc ∧ nc ≤ 2) (hI : gI (gE_C nc) ad) (n0 : Nat) (hn0 : n0 < 5 * nc) (a1 : Int32) (μ : gM) (r : Int32) (h : mX4_heardSince nc n0 a1 μ = some r) : gMet l yX4_heardSince cX4_heardSince 4 (some .int) ({ frames := 0, cells := 0, slots := 0, locals := 0 } : Room) D (gE_C nc) gkd_C tc ad (grh_C nc) sa [.ref (ad 11 n0), .int a1] μ (some (.int r)) μ := by
  refine gMet_of hI ⟨by decide +kernel, Nat.le_of_ble_eq_true rfl⟩ (fun p e s m args below meth c sz hr hlk => ?_)
  unfold mX4_heardSince at h
  show JC p l e ({ frames := 0, cells := 0, slots := 0, locals := 0 } : Room) s m args below meth c cX4_heardSince 4 RX4 D tc sa ad nc sz (some (.int r)) μ μ 0 [(0, .ref (ad 11 n0)), (1, .int a1)] []
  refine J_iconst (v := 1) (pc1 := 1) dX4_heardSince_0 (by decide) rfl ?_
  refine J_aload_n (i := 0) (q := 0) (pc1 := 2) dX4_heardSince_1 rfl rfl rfl ?_
  refine J_getI (T := TX4) (pc1 := 5) (eC11 hn0) rfl rfl inX4 0 (by decide) rfl flX4_9 rfl dX4_heardSince_2 rfl ?_
  refine J_ishl (pc1 := 6) dX4_heardSince_5 rfl ?_
  obtain ⟨x1, e3, h⟩ := gLet_s h
  refine J_top (fun y2 e4 => ?_)
  have e4x : x1 = y2 := (e4.trans e3.symm).symm
  subst e4x
  refine J_istore_n (i := 2) (lv1 := [(2, .int x1), (0, .ref (ad 11 n0)), (1, .int a1)]) (pc1 := 7) dX4_heardSince_6 rfl (by decide) rfl rfl ?_
  refine J_iconst (v := 0) (pc1 := 8) dX4_heardSince_7 (by decide) rfl ?_
  refine J_istore_n (i := 3) (lv1 := [(3, .int 0), (2, .int x1), (0, .ref (ad 11 n0)), (1, .int a1)]) (pc1 := 9) dX4_heardSince_8 rfl (by decide) rfl rfl ?_
  obtain ⟨j6, ej6, h⟩ := gJon_s h
  have kj6 : ∀ (x5 : Int32), j6 x5 = some r → JC p l e ({ frames := 0, cells := 0, slots := 0, locals := 0 } : Room) s m args below meth c cX4_heardSince 4 RX4 D tc sa ad nc sz (some (.int r)) μ μ 36 [(2, .int x5)] [] := by
    intro x5 h
    rw [ej6] at h
    try dsimp only at h
    refine J_iload_n (i := 2) (q := 0) (pc1 := 37) dX4_heardSince_36 rfl rfl rfl ?_
    cases h
    exact J_iret hr hlk dX4_heardSince_37
  clear ej6
  refine J_sub [2, 3, 1, 0] (lv1 := [(0, .ref (ad 11 n0)), (1, .int a1), (2, .int x1), (3, .int 0)]) rfl ?_
  refine gFx2_s (P := fun x7 x8 => JC p l e ({ frames := 0, cells := 0, slots := 0, locals := 0 } : Room) s m args below meth c cX4_heardSince 4 RX4 D tc sa ad nc sz (some (.int r)) μ μ 9 [(0, .ref (ad 11 n0)), (1, .int a1), (2, .int x7), (3, .int x8)] []) (fun rec9 ihrec9 x7 x8 h => ?_) _ _ _ h
  try dsimp only at h
  refine J_iload_n (i := 3) (q := 3) (pc1 := 10) dX4_heardSince_9 rfl rfl rfl ?_
  refine J_iconst (v := 5) (pc1 := 11) dX4_heardSince_10 (by decide) rfl ?_
  refine J_icmp_ge (tgt := 36) (pc1 := 14) dX4_heardSince_11 (by decide) (fun q10 => ?_) rfl (fun q10 => ?_)
  · rw [if_pos q10] at h
    refine J_sub [2] (lv1 := [(2, .int x7)]) rfl ?_
    exact kj6 _ h
  · rw [if_neg q10] at h
    refine J_aload_n (i := 0) (q := 0) (pc1 := 15) dX4_heardSince_14 rfl rfl rfl ?_
    refine J_getR (T := TX4) (f' := 15) (i' := n0) (pc1 := 18) (eC11 hn0) rfl rfl inX4 4 (by decide) rfl rfl flX4_29 rfl dX4_heardSince_15 rfl ?_
    refine J_iload_n (i := 3) (q := 3) (pc1 := 19) dX4_heardSince_18 rfl rfl rfl ?_
    obtain ⟨h11, h⟩ := gChk_s h
    refine J_iald (ix := (x8.toNatClampNeg)) (pc1 := 20) rfl (eC15 hn0) rfl h11 dX4_heardSince_19 rfl ?_
    refine J_iload_n (i := 1) (q := 1) (pc1 := 21) dX4_heardSince_20 rfl rfl rfl ?_
    refine J_icmp_lt (tgt := 30) (pc1 := 24) dX4_heardSince_21 (by decide) (fun q12 => ?_) rfl (fun q12 => ?_)
    · rw [if_pos q12] at h
      refine J_iinc (i := 3) (q := 3) (v := x8 + 1) (lv1 := [(3, .int (x8 + 1)), (0, .ref (ad 11 n0)), (1, .int a1), (2, .int x7)]) (pc1 := 33) dX4_heardSince_30 rfl rfl (by decide) rfl rfl ?_
      refine J_goto (tgt := 9) dX4_heardSince_33 (by decide) ?_
      refine J_sub [1, 2, 3, 0] (lv1 := [(0, .ref (ad 11 n0)), (1, .int a1), (2, .int x7), (3, .int (x8 + 1))]) rfl ?_
      exact ihrec9 _ _ h
    · rw [if_neg q12] at h
      refine J_iload_n (i := 2) (q := 2) (pc1 := 25) dX4_heardSince_24 rfl rfl rfl ?_
      refine J_iconst (v := 1) (pc1 := 26) dX4_heardSince_25 (by decide) rfl ?_
      refine J_iload_n (i := 3) (q := 3) (pc1 := 27) dX4_heardSince_26 rfl rfl rfl ?_
      refine J_ishl (pc1 := 28) dX4_heardSince_27 rfl ?_
      refine J_ior (pc1 := 29) dX4_heardSince_28 rfl ?_
      obtain ⟨x13, e15, h⟩ := gLet_s h
      refine J_top (fun y14 e16 => ?_)
      have e16x : x13 = y14 := (e16.trans e15.symm).symm
      subst e16x
      refine J_istore_n (i := 2) (lv1 := [(2, .int x13), (0, .ref (ad 11 n0)), (1, .int a1), (3, .int x8)]) (pc1 := 30) dX4_heardSince_29 rfl (by decide) rfl rfl ?_
      refine J_iinc (i := 3) (q := 3) (v := x8 + 1) (lv1 := [(3, .int (x8 + 1)), (2, .int x13), (0, .ref (ad 11 n0)), (1, .int a1)]) (pc1 := 33) dX4_heardSince_30 rfl rfl (by decide) rfl rfl ?_
      refine J_goto (tgt := 9) dX4_heardSince_33 (by decide) ?_
      refine J_sub [2, 3, 1, 0] (lv1 := [(0, .ref (ad 11 n0)), (1, .int a1), (2, .int x13), (3, .int (x8 + 1))]) rfl ?_
      exact ihrec9 _ _ h
def mX4_lease (nc : Nat) (n0 : Nat) (a1 : Int32) (μ : gM) : Option Int32 :=
  if (μ 11 n0 6) = 2 then
    gJon (fun (x2 : Int32) =>
        gLet (α := Int32) (if x2 = (-1) then (-1) else x2 + 6) fun x4 =>
        some x4) fun j3 =>
    gFx2 (fun rec10 (x8 : Int32) (x9 : Int32) =>
        if 5 ≤ x9 then
          j3 x8
        else
          gJon (fun (x12 : Int32) =>
              if x12 ≤ x8 then
                rec10 x8 (x9 + 1)
              else
                gBp (mX4_heardSince nc n0 x12 μ) fun r16 =>
                gBp (mX1_isQuorum nc n0 r16 μ) fun r18 =>
                if r18 = 0 then
                  rec10 x8 (x9 + 1)
                else
                  rec10 x12 (x9 + 1)) fun j13 =>
          if x9 = (μ 11 n0 0) then
            j13 a1
          else
            gChk (inb x9 5) <|
            j13 (μ 15 n0 (x9.toNatClampNeg))) 1000000 (-1) 0
  else
    some (-1)
set_option maxHeartbeats 4000000 in
set_option maxRecDepth 100000 in
theorem kX4_lease (l : Launch) (D : va_G) (tc : Nat → ClassId) (sa : Nat → Nat) (ad : Nat → Nat → Nat) (nc : Nat) (hnc : 0 < nc ∧ nc ≤ 2) (hI : gI (gE_C nc) ad) (n0 : Nat) (hn0 : n0 < 5 * nc) (a1 : Int32) (μ : gM) (r : Int32) (h : mX4_lease nc n0 a1 μ = some r) : gMet l yX4_lease cX4_lease 5 (some .int) ({ frames := 2, cells := 0, slots := 0, locals := 41 } : Room) D (gE_C nc) gkd_C tc ad (grh_C nc) sa [.ref (ad 11 n0), .int a1] μ (some (.int r)) μ := by
  refine gMet_of hI ⟨by decide +kernel, Nat.le_of_ble_eq_true rfl⟩ (fun p e s m args below meth c sz hr hlk => ?_)
  unfold mX4_lease at h
  show JC p l e ({ frames := 2, cells := 0, slots := 0, locals := 41 } : Room) s m args below meth c cX4_lease 5 RX4 D tc sa ad nc sz (some (.int r)) μ μ 0 [(0, .ref (ad 11 n0)), (1, .int a1)] []
  refine J_aload_n (i := 0) (q := 0) (pc1 := 1) dX4_lease_0 rfl rfl rfl ?_
  refine J_getI (T := TX4) (pc1 := 4) (eC11 hn0) rfl rfl inX4 6 (by decide) rfl flX4_40 rfl dX4_lease_1 rfl ?_
  refine J_iconst (v := 2) (pc1 := 5) dX4_lease_4 (by decide) rfl ?_
  refine J_icmp_eq (tgt := 10) (pc1 := 8) dX4_lease_5 (by decide) (fun q1 => ?_) rfl (fun q1 => ?_)
  · rw [if_pos q1] at h
    refine J_iconst (v := (-1)) (pc1 := 11) dX4_lease_10 (by decide) rfl ?_
    refine J_istore_n (i := 2) (lv1 := [(2, .int (-1)), (0, .ref (ad 11 n0)), (1, .int a1)]) (pc1 := 12) dX4_lease_11 rfl (by decide) rfl rfl ?_
    refine J_iconst (v := 0) (pc1 := 13) dX4_lease_12 (by decide) rfl ?_
    refine J_istore_n (i := 3) (lv1 := [(3, .int 0), (2, .int (-1)), (0, .ref (ad 11 n0)), (1, .int a1)]) (pc1 := 14) dX4_lease_13 rfl (by decide) rfl rfl ?_
    obtain ⟨j3, ej3, h⟩ := gJon_s h
    have kj3 : ∀ (x2 : Int32), j3 x2 = some r → JC p l e ({ frames := 2, cells := 0, slots := 0, locals := 41 } : Room) s m args below meth c cX4_lease 5 RX4 D tc sa ad nc sz (some (.int r)) μ μ 70 [(2, .int x2)] [] := by
      intro x2 h
      rw [ej3] at h
      try dsimp only at h
      refine J_iload_n (i := 2) (q := 0) (pc1 := 71) dX4_lease_70 rfl rfl rfl ?_
      refine J_iconst (v := (-1)) (pc1 := 72) dX4_lease_71 (by decide) rfl ?_
      obtain ⟨x4, e5, h⟩ := gLet_s h
      have k6 : JC p l e ({ frames := 2, cells := 0, slots := 0, locals := 41 } : Room) s m args below meth c cX4_lease 5 RX4 D tc sa ad nc sz (some (.int r)) μ μ 83 [(2, .int x2)] [.int x4] := by
        cases h
        exact J_iret hr hlk dX4_lease_83
      refine J_icmp_ne (tgt := 79) (pc1 := 75) dX4_lease_72 (by decide) (fun q7 => ?_) rfl (fun q7 => ?_)
      · rw [if_neg q7] at e5
        subst e5
        refine J_iload_n (i := 2) (q := 0) (pc1 := 80) dX4_lease_79 rfl rfl rfl ?_
        refine J_bipush (v := 6) (pc1 := 82) dX4_lease_80 (by decide) rfl ?_
        refine J_iadd (pc1 := 83) dX4_lease_82 rfl ?_
        exact k6
      · rw [if_pos q7] at e5
        subst e5
        refine J_iconst (v := (-1)) (pc1 := 76) dX4_lease_75 (by decide) rfl ?_
        refine J_goto (tgt := 83) dX4_lease_76 (by decide) ?_
        exact k6
    clear ej3
    refine J_sub [2, 3, 1, 0] (lv1 := [(0, .ref (ad 11 n0)), (1, .int a1), (2, .int (-1)), (3, .int 0)]) rfl ?_
    refine gFx2_s (P := fun x8 x9 => JC p l e ({ frames := 2, cells := 0, slots := 0, locals := 41 } : Room) s m args below meth c cX4_lease 5 RX4 D tc sa ad nc sz (some (.int r)) μ μ 14 [(0, .ref (ad 11 n0)), (1, .int a1), (2, .int x8), (3, .int x9)] []) (fun rec10 ihrec10 x8 x9 h => ?_) _ _ _ h
    try dsimp only at h
    refine J_iload_n (i := 3) (q := 3) (pc1 := 15) dX4_lease_14 rfl rfl rfl ?_
    refine J_iconst (v := 5) (pc1 := 16) dX4_lease_15 (by decide) rfl ?_
    refine J_icmp_ge (tgt := 70) (pc1 := 19) dX4_lease_16 (by decide) (fun q11 => ?_) rfl (fun q11 => ?_)
    · rw [if_pos q11] at h
      refine J_sub [2] (lv1 := [(2, .int x8)]) rfl ?_
      exact kj3 _ h
    · rw [if_neg q11] at h
      refine J_iload_n (i := 3) (q := 3) (pc1 := 20) dX4_lease_19 rfl rfl rfl ?_
      refine J_aload_n (i := 0) (q := 0) (pc1 := 21) dX4_lease_20 rfl rfl rfl ?_
      refine J_getI (T := TX4) (pc1 := 24) (eC11 hn0) rfl rfl inX4 0 (by decide) rfl flX4_9 rfl dX4_lease_21 rfl ?_
      obtain ⟨j13, ej13, h⟩ := gJon_s h
      have kj13 : ∀ (x12 : Int32), j13 x12 = some r → JC p l e ({ frames := 2, cells := 0, slots := 0, locals := 41 } : Room) s m args below meth c cX4_lease 5 RX4 D tc sa ad nc sz (some (.int r)) μ μ 37 [(0, .ref (ad 11 n0)), (1, .int a1), (2, .int x8), (3, .int x9)] [.int x12] := by
        intro x12 h
        rw [ej13] at h
        try dsimp only at h
        refine J_istore (i := 4) (lv1 := [(4, .int x12), (0, .ref (ad 11 n0)), (1, .int a1), (2, .int x8), (3, .int x9)]) (pc1 := 39) dX4_lease_37 (by decide) rfl rfl ?_
        refine J_iload (i := 4) (q := 0) (pc1 := 41) dX4_lease_39 rfl rfl ?_
        refine J_iload_n (i := 2) (q := 3) (pc1 := 42) dX4_lease_41 rfl rfl rfl ?_
        refine J_icmp_le (tgt := 64) (pc1 := 45) dX4_lease_42 (by decide) (fun q14 => ?_) rfl (fun q14 => ?_)
        · rw [if_pos q14] at h
          refine J_iinc (i := 3) (q := 4) (v := x9 + 1) (lv1 := [(3, .int (x9 + 1)), (4, .int x12), (0, .ref (ad 11 n0)), (1, .int a1), (2, .int x8)]) (pc1 := 67) dX4_lease_64 rfl rfl (by decide) rfl rfl ?_
          refine J_goto (tgt := 14) dX4_lease_67 (by decide) ?_
          refine J_sub [2, 3, 4, 0] (lv1 := [(0, .ref (ad 11 n0)), (1, .int a1), (2, .int x8), (3, .int (x9 + 1))]) rfl ?_
          exact ihrec10 _ _ h
        · rw [if_neg q14] at h
          refine J_aload_n (i := 0) (q := 1) (pc1 := 46) dX4_lease_45 rfl rfl rfl ?_
          refine J_getR (T := TX4) (f' := 12) (i' := n0) (pc1 := 49) (eC11 hn0) rfl rfl inX4 1 (by decide) rfl rfl flX4_18 rfl dX4_lease_46 rfl ?_
          refine J_aload_n (i := 0) (q := 1) (pc1 := 50) dX4_lease_49 rfl rfl rfl ?_
          refine J_iload (i := 4) (q := 0) (pc1 := 52) dX4_lease_50 rfl rfl ?_
          obtain ⟨r16, hc15, h⟩ := gBp_s h
          refine J_callV (As := [.int x12]) (ad := ad) (f := 11) (i := n0) (st := [.ref (ad 12 n0)]) (st1 := [.int r16, .ref (ad 12 n0)]) (pc1 := 55) (kX4_heardSince l D tc sa ad nc hnc hI n0 hn0 x12 μ r16 hc15) wcX4_heardSince wlX4_79 (eC11 hn0) rfl rfl rfl ⟨rfl, rfl, Nat.le_of_ble_eq_true rfl, Nat.le_of_ble_eq_true rfl⟩ ⟨Nat.zero_le _, Nat.zero_le _⟩ (Nat.le_of_ble_eq_true rfl) dX4_lease_52 rfl rfl ?_
          obtain ⟨r18, hc17, h⟩ := gBp_s h
          refine J_callV (As := [.int r16]) (ad := ad) (f := 12) (i := n0) (st := []) (st1 := [.int r18]) (pc1 := 58) (kX1_isQuorum l D tc sa ad nc hnc hI n0 hn0 r16 μ r18 hc17) wcX1_isQuorum wlX4_83 (eC12 hn0) rfl rfl rfl ⟨rfl, rfl, Nat.le_of_ble_eq_true rfl, Nat.le_of_ble_eq_true rfl⟩ ⟨Nat.zero_le _, Nat.zero_le _⟩ (Nat.le_of_ble_eq_true rfl) dX4_lease_55 rfl rfl ?_
          refine J_if_eq (tgt := 64) (pc1 := 61) dX4_lease_58 (by decide) (fun q19 => ?_) rfl (fun q19 => ?_)
          · rw [if_pos q19] at h
            refine J_iinc (i := 3) (q := 4) (v := x9 + 1) (lv1 := [(3, .int (x9 + 1)), (4, .int x12), (0, .ref (ad 11 n0)), (1, .int a1), (2, .int x8)]) (pc1 := 67) dX4_lease_64 rfl rfl (by decide) rfl rfl ?_
            refine J_goto (tgt := 14) dX4_lease_67 (by decide) ?_
            refine J_sub [2, 3, 4, 0] (lv1 := [(0, .ref (ad 11 n0)), (1, .int a1), (2, .int x8), (3, .int (x9 + 1))]) rfl ?_
            exact ihrec10 _ _ h
          · rw [if_neg q19] at h
            refine J_iload (i := 4) (q := 0) (pc1 := 63) dX4_lease_61 rfl rfl ?_
            refine J_istore_n (i := 2) (lv1 := [(2, .int x12), (4, .int x12), (0, .ref (ad 11 n0)), (1, .int a1), (3, .int x9)]) (pc1 := 64) dX4_lease_63 rfl (by decide) rfl rfl ?_
            refine J_iinc (i := 3) (q := 4) (v := x9 + 1) (lv1 := [(3, .int (x9 + 1)), (2, .int x12), (4, .int x12), (0, .ref (ad 11 n0)), (1, .int a1)]) (pc1 := 67) dX4_lease_64 rfl rfl (by decide) rfl rfl ?_
            refine J_goto (tgt := 14) dX4_lease_67 (by decide) ?_
            refine J_sub [3, 4, 1, 0] (lv1 := [(0, .ref (ad 11 n0)), (1, .int a1), (2, .int x12), (3, .int (x9 + 1))]) rfl ?_
            exact ihrec10 _ _ h
      clear ej13
      refine J_icmp_ne (tgt := 31) (pc1 := 27) dX4_lease_24 (by decide) (fun q20 => ?_) rfl (fun q20 => ?_)
      · rw [if_neg q20] at h
        refine J_aload_n (i := 0) (q := 0) (pc1 := 32) dX4_lease_31 rfl rfl rfl ?_
        refine J_getR (T := TX4) (f' := 15) (i' := n0) (pc1 := 35) (eC11 hn0) rfl rfl inX4 4 (by decide) rfl rfl flX4_29 rfl dX4_lease_32 rfl ?_
        refine J_iload_n (i := 3) (q := 3) (pc1 := 36) dX4_lease_35 rfl rfl rfl ?_
        obtain ⟨h21, h⟩ := gChk_s h
        refine J_iald (ix := (x9.toNatClampNeg)) (pc1 := 37) rfl (eC15 hn0) rfl h21 dX4_lease_36 rfl ?_
        exact kj13 _ h
      · rw [if_pos q20] at h
        refine J_iload_n (i := 1) (q := 1) (pc1 := 28) dX4_lease_27 rfl rfl rfl ?_
        refine J_goto (tgt := 37) dX4_lease_28 (by decide) ?_
        exact kj13 _ h
  · rw [if_neg q1] at h
    refine J_iconst (v := (-1)) (pc1 := 9) dX4_lease_8 (by decide) rfl ?_
    cases h
    exact J_iret hr hlk dX4_lease_9
def mX4_canAnswerReads (nc : Nat) (n0 : Nat) (a1 : Int32) (μ : gM) : Option Int32 :=
  gBp (mX4_lease nc n0 a1 μ) fun r2 =>
  if r2 ≤ a1 then
    some 0
  else
    gBp (mX1_termAt nc n0 (μ 11 n0 9) μ) fun r5 =>
    if r5 = (μ 11 n0 7) then
      some 1
    else
      some 0
set_option maxHeartbeats 4000000 in
set_option maxRecDepth 100000 in
theorem kX4_canAnswerReads (l : Launch) (D : va_G) (tc : Nat → ClassId) (sa : Nat → Nat) (ad : Nat → Nat → Nat) (nc : Nat) (hnc : 0 < nc ∧ nc ≤ 2) (hI : gI (gE_C nc) ad) (n0 : Nat) (hn0 : n0 < 5 * nc) (a1 : Int32) (μ : gM) (r : Int32) (h : mX4_canAnswerReads nc n0 a1 μ = some r) : gMet l yX4_canAnswerReads cX4_canAnswerReads 2 (some .boolean) ({ frames := 3, cells := 0, slots := 0, locals := 65 } : Room) D (gE_C nc) gkd_C tc ad (grh_C nc) sa [.ref (ad 11 n0), .int a1] μ (some (.int r)) μ := by
  refine gMet_of hI ⟨by decide +kernel, Nat.le_of_ble_eq_true rfl⟩ (fun p e s m args below meth c sz hr hlk => ?_)
  unfold mX4_canAnswerReads at h
  show JC p l e ({ frames := 3, cells := 0, slots := 0, locals := 65 } : Room) s m args below meth c cX4_canAnswerReads 2 RX4 D tc sa ad nc sz (some (.int r)) μ μ 0 [(0, .ref (ad 11 n0)), (1, .int a1)] []
  refine J_iload_n (i := 1) (q := 1) (pc1 := 1) dX4_canAnswerReads_0 rfl rfl rfl ?_
  refine J_aload_n (i := 0) (q := 0) (pc1 := 2) dX4_canAnswerReads_1 rfl rfl rfl ?_
  refine J_iload_n (i := 1) (q := 1) (pc1 := 3) dX4_canAnswerReads_2 rfl rfl rfl ?_
  obtain ⟨r2, hc1, h⟩ := gBp_s h
  refine J_callV (As := [.int a1]) (ad := ad) (f := 11) (i := n0) (st := [.int a1]) (st1 := [.int r2, .int a1]) (pc1 := 6) (kX4_lease l D tc sa ad nc hnc hI n0 hn0 a1 μ r2 hc1) wcX4_lease wlX4_86 (eC11 hn0) rfl rfl rfl ⟨rfl, rfl, Nat.le_of_ble_eq_true rfl, Nat.le_of_ble_eq_true rfl⟩ ⟨Nat.zero_le _, Nat.zero_le _⟩ (Nat.le_of_ble_eq_true rfl) dX4_canAnswerReads_3 rfl rfl ?_
  refine J_icmp_ge (tgt := 31) (pc1 := 9) dX4_canAnswerReads_6 (by decide) (fun q3 => ?_) rfl (fun q3 => ?_)
  · rw [if_pos q3] at h
    refine J_iconst (v := 0) (pc1 := 32) dX4_canAnswerReads_31 (by decide) rfl ?_
    cases h
    exact J_zret (by decide) hr hlk dX4_canAnswerReads_32
  · rw [if_neg q3] at h
    refine J_aload_n (i := 0) (q := 0) (pc1 := 10) dX4_canAnswerReads_9 rfl rfl rfl ?_
    refine J_getR (T := TX4) (f' := 12) (i' := n0) (pc1 := 13) (eC11 hn0) rfl rfl inX4 1 (by decide) rfl rfl flX4_18 rfl dX4_canAnswerReads_10 rfl ?_
    refine J_aload_n (i := 0) (q := 0) (pc1 := 14) dX4_canAnswerReads_13 rfl rfl rfl ?_
    refine J_getI (T := TX4) (pc1 := 17) (eC11 hn0) rfl rfl inX4 9 (by decide) rfl flX4_49 rfl dX4_canAnswerReads_14 rfl ?_
    obtain ⟨r5, hc4, h⟩ := gBp_s h
    refine J_callV (As := [.int (μ 11 n0 9)]) (ad := ad) (f := 12) (i := n0) (st := []) (st1 := [.int r5]) (pc1 := 20) (kX1_termAt l D tc sa ad nc hnc hI n0 hn0 (μ 11 n0 9) μ r5 hc4) wcX1_termAt wlX4_89 (eC12 hn0) rfl rfl rfl ⟨rfl, rfl, Nat.le_of_ble_eq_true rfl, Nat.le_of_ble_eq_true rfl⟩ ⟨Nat.zero_le _, Nat.zero_le _⟩ (Nat.le_of_ble_eq_true rfl) dX4_canAnswerReads_17 rfl rfl ?_
    refine J_aload_n (i := 0) (q := 0) (pc1 := 21) dX4_canAnswerReads_20 rfl rfl rfl ?_
    refine J_getI (T := TX4) (pc1 := 24) (eC11 hn0) rfl rfl inX4 7 (by decide) rfl flX4_43 rfl dX4_canAnswerReads_21 rfl ?_
    refine J_icmp_ne (tgt := 31) (pc1 := 27) dX4_canAnswerReads_24 (by decide) (fun q6 => ?_) rfl (fun q6 => ?_)
    · rw [if_neg q6] at h
      refine J_iconst (v := 0) (pc1 := 32) dX4_canAnswerReads_31 (by decide) rfl ?_
      cases h
      exact J_zret (by decide) hr hlk dX4_canAnswerReads_32
    · rw [if_pos q6] at h
      refine J_iconst (v := 1) (pc1 := 28) dX4_canAnswerReads_27 (by decide) rfl ?_
      refine J_goto (tgt := 32) dX4_canAnswerReads_28 (by decide) ?_
      cases h
      exact J_zret (by decide) hr hlk dX4_canAnswerReads_32
def mX5_isFull (nc : Nat)  (μ : gM) : Option Int32 :=
  if (μ 1 0 4) < 80 then
    some 0
  else
    some 1
set_option maxHeartbeats 4000000 in
set_option maxRecDepth 100000 in
theorem kX5_isFull (l : Launch) (D : va_G) (tc : Nat → ClassId) (sa : Nat → Nat) (ad : Nat → Nat → Nat) (nc : Nat) (hnc : 0 < nc ∧ nc ≤ 2) (hI : gI (gE_C nc) ad)  (μ : gM) (r : Int32) (h : mX5_isFull nc  μ = some r) : gMet l yX5_isFull cX5_isFull 1 (some .boolean) ({ frames := 0, cells := 0, slots := 0, locals := 0 } : Room) D (gE_C nc) gkd_C tc ad (grh_C nc) sa [.ref (ad 1 0)] μ (some (.int r)) μ := by
  refine gMet_of hI ⟨by decide +kernel, Nat.le_of_ble_eq_true rfl⟩ (fun p e s m args below meth c sz hr hlk => ?_)
  unfold mX5_isFull at h
  show JC p l e ({ frames := 0, cells := 0, slots := 0, locals := 0 } : Room) s m args below meth c cX5_isFull 1 RX5 D tc sa ad nc sz (some (.int r)) μ μ 0 [(0, .ref (ad 1 0))] []
  refine J_aload_n (i := 0) (q := 0) (pc1 := 1) dX5_isFull_0 rfl rfl rfl ?_
  refine J_getI (T := TX5) (pc1 := 4) eC1 rfl rfl inX5 4 (by decide) rfl flX5_25 rfl dX5_isFull_1 rfl ?_
  refine J_bipush (v := 80) (pc1 := 6) dX5_isFull_4 (by decide) rfl ?_
  refine J_icmp_lt (tgt := 13) (pc1 := 9) dX5_isFull_6 (by decide) (fun q1 => ?_) rfl (fun q1 => ?_)
  · rw [if_pos q1] at h
    refine J_iconst (v := 0) (pc1 := 14) dX5_isFull_13 (by decide) rfl ?_
    cases h
    exact J_zret (by decide) hr hlk dX5_isFull_14
  · rw [if_neg q1] at h
    refine J_iconst (v := 1) (pc1 := 10) dX5_isFull_9 (by decide) rfl ?_
    refine J_goto (tgt := 14) dX5_isFull_10 (by decide) ?_
    cases h
    exact J_zret (by decide) hr hlk dX5_isFull_14
def mX5_add (nc : Nat) (a1 : Int32) (μ : gM) : Option gM :=
  if (μ 1 0 4) < 0 then
    some μ
  else
    if 80 ≤ (μ 1 0 4) then
      some μ
    else
      gChk (inb (μ 1 0 4) 80) <|
      gChk (vp_nar .char a1 = a1) <|
      gLet (α := gM) (w3 μ 2 0 ((μ 1 0 4).toNatClampNeg) a1) fun μ5 =>
      gLet (α := gM) (w3 μ5 1 0 4 ((μ5 1 0 4) + 1)) fun μ7 =>
      some μ7
set_option maxHeartbeats 4000000 in
set_option maxRecDepth 100000 in
theorem kX5_add (l : Launch) (D : va_G) (tc : Nat → ClassId) (sa : Nat → Nat) (ad : Nat → Nat → Nat) (nc : Nat) (hnc : 0 < nc ∧ nc ≤ 2) (hI : gI (gE_C nc) ad) (a1 : Int32) (μ : gM) (μ' : gM) (h : mX5_add nc a1 μ = some μ') : gMet l yX5_add cX5_add 2 (none) ({ frames := 0, cells := 0, slots := 0, locals := 0 } : Room) D (gE_C nc) gkd_C tc ad (grh_C nc) sa [.ref (ad 1 0), .int a1] μ (none) μ' := by
  refine gMet_of hI ⟨by decide +kernel, Nat.le_of_ble_eq_true rfl⟩ (fun p e s m args below meth c sz hr hlk => ?_)
  unfold mX5_add at h
  show JC p l e ({ frames := 0, cells := 0, slots := 0, locals := 0 } : Room) s m args below meth c cX5_add 2 RX5 D tc sa ad nc sz (none) μ' μ 0 [(0, .ref (ad 1 0)), (1, .int a1)] []
  refine J_aload_n (i := 0) (q := 0) (pc1 := 1) dX5_add_0 rfl rfl rfl ?_
  refine J_getI (T := TX5) (pc1 := 4) eC1 rfl rfl inX5 4 (by decide) rfl flX5_25 rfl dX5_add_1 rfl ?_
  refine J_if_lt (tgt := 36) (pc1 := 7) dX5_add_4 (by decide) (fun q1 => ?_) rfl (fun q1 => ?_)
  · rw [if_pos q1] at h
    cases h
    exact J_vret hr hlk dX5_add_36
  · rw [if_neg q1] at h
    refine J_aload_n (i := 0) (q := 0) (pc1 := 8) dX5_add_7 rfl rfl rfl ?_
    refine J_getI (T := TX5) (pc1 := 11) eC1 rfl rfl inX5 4 (by decide) rfl flX5_25 rfl dX5_add_8 rfl ?_
    refine J_bipush (v := 80) (pc1 := 13) dX5_add_11 (by decide) rfl ?_
    refine J_icmp_ge (tgt := 36) (pc1 := 16) dX5_add_13 (by decide) (fun q2 => ?_) rfl (fun q2 => ?_)
    · rw [if_pos q2] at h
      cases h
      exact J_vret hr hlk dX5_add_36
    · rw [if_neg q2] at h
      refine J_aload_n (i := 0) (q := 0) (pc1 := 17) dX5_add_16 rfl rfl rfl ?_
      refine J_getR (T := TX5) (f' := 2) (i' := 0) (pc1 := 20) eC1 rfl rfl inX5 0 (by decide) rfl rfl flX5_9 rfl dX5_add_17 rfl ?_
      refine J_aload_n (i := 0) (q := 0) (pc1 := 21) dX5_add_20 rfl rfl rfl ?_
      refine J_getI (T := TX5) (pc1 := 24) eC1 rfl rfl inX5 4 (by decide) rfl flX5_25 rfl dX5_add_21 rfl ?_
      refine J_iload_n (i := 1) (q := 1) (pc1 := 25) dX5_add_24 rfl rfl rfl ?_
      obtain ⟨h3, h⟩ := gChk_s h
      obtain ⟨h4, h⟩ := gChk_s h
      refine J_cast (ix := ((μ 1 0 4).toNatClampNeg)) (pc1 := 26) rfl eC2 rfl h3 h4 dX5_add_25 rfl ?_
      obtain ⟨μ5, e6, h⟩ := gLet_s h
      rw [← e6]
      clear e6
      refine J_aload_n (i := 0) (q := 0) (pc1 := 27) dX5_add_26 rfl rfl rfl ?_
      refine J_dup (pc1 := 28) dX5_add_27 rfl rfl ?_
      refine J_getI (T := TX5) (pc1 := 31) eC1 rfl rfl inX5 4 (by decide) rfl flX5_25 rfl dX5_add_28 rfl ?_
      refine J_iconst (v := 1) (pc1 := 32) dX5_add_31 (by decide) rfl ?_
      refine J_iadd (pc1 := 33) dX5_add_32 rfl ?_
      refine J_putI (T := TX5) (pc1 := 36) eC1 rfl rfl inX5 tyX5 tyX5_ok nmX5 4 (by decide) rfl (fun _ _ _ _ => gh1) flX5_25 rfl rfl rfl rfl dX5_add_33 rfl ?_
      obtain ⟨μ7, e8, h⟩ := gLet_s h
      rw [← e8]
      clear e8
      cases h
      exact J_vret hr hlk dX5_add_36
def mX5_isBetween (nc : Nat) (a1 : Int32) (a2 : Int32) (μ : gM) : Option Int32 :=
  if (μ 1 0 5) < 0 then
    some 0
  else
    if (μ 1 0 4) ≤ (μ 1 0 5) then
      some 0
    else
      if 80 ≤ (μ 1 0 5) then
        some 0
      else
        gChk (inb (μ 1 0 5) 80) <|
        if (μ 2 0 ((μ 1 0 5).toNatClampNeg)) < a1 then
          some 0
        else
          gChk (inb (μ 1 0 5) 80) <|
          if a2 < (μ 2 0 ((μ 1 0 5).toNatClampNeg)) then
            some 0
          else
            some 1
set_option maxHeartbeats 4000000 in
set_option maxRecDepth 100000 in
theorem kX5_isBetween (l : Launch) (D : va_G) (tc : Nat → ClassId) (sa : Nat → Nat) (ad : Nat → Nat → Nat) (nc : Nat) (hnc : 0 < nc ∧ nc ≤ 2) (hI : gI (gE_C nc) ad) (a1 : Int32) (a2 : Int32) (μ : gM) (r : Int32) (h : mX5_isBetween nc a1 a2 μ = some r) : gMet l yX5_isBetween cX5_isBetween 3 (some .boolean) ({ frames := 0, cells := 0, slots := 0, locals := 0 } : Room) D (gE_C nc) gkd_C tc ad (grh_C nc) sa [.ref (ad 1 0), .int a1, .int a2] μ (some (.int r)) μ := by
  refine gMet_of hI ⟨by decide +kernel, Nat.le_of_ble_eq_true rfl⟩ (fun p e s m args below meth c sz hr hlk => ?_)
  unfold mX5_isBetween at h
  show JC p l e ({ frames := 0, cells := 0, slots := 0, locals := 0 } : Room) s m args below meth c cX5_isBetween 3 RX5 D tc sa ad nc sz (some (.int r)) μ μ 0 [(0, .ref (ad 1 0)), (1, .int a1), (2, .int a2)] []
  refine J_aload_n (i := 0) (q := 0) (pc1 := 1) dX5_isBetween_0 rfl rfl rfl ?_
  refine J_getI (T := TX5) (pc1 := 4) eC1 rfl rfl inX5 5 (by decide) rfl flX5_29 rfl dX5_isBetween_1 rfl ?_
  refine J_if_lt (tgt := 57) (pc1 := 7) dX5_isBetween_4 (by decide) (fun q1 => ?_) rfl (fun q1 => ?_)
  · rw [if_pos q1] at h
    refine J_iconst (v := 0) (pc1 := 58) dX5_isBetween_57 (by decide) rfl ?_
    cases h
    exact J_zret (by decide) hr hlk dX5_isBetween_58
  · rw [if_neg q1] at h
    refine J_aload_n (i := 0) (q := 0) (pc1 := 8) dX5_isBetween_7 rfl rfl rfl ?_
    refine J_getI (T := TX5) (pc1 := 11) eC1 rfl rfl inX5 5 (by decide) rfl flX5_29 rfl dX5_isBetween_8 rfl ?_
    refine J_aload_n (i := 0) (q := 0) (pc1 := 12) dX5_isBetween_11 rfl rfl rfl ?_
    refine J_getI (T := TX5) (pc1 := 15) eC1 rfl rfl inX5 4 (by decide) rfl flX5_25 rfl dX5_isBetween_12 rfl ?_
    refine J_icmp_ge (tgt := 57) (pc1 := 18) dX5_isBetween_15 (by decide) (fun q2 => ?_) rfl (fun q2 => ?_)
    · rw [if_pos q2] at h
      refine J_iconst (v := 0) (pc1 := 58) dX5_isBetween_57 (by decide) rfl ?_
      cases h
      exact J_zret (by decide) hr hlk dX5_isBetween_58
    · rw [if_neg q2] at h
      refine J_aload_n (i := 0) (q := 0) (pc1 := 19) dX5_isBetween_18 rfl rfl rfl ?_
      refine J_getI (T := TX5) (pc1 := 22) eC1 rfl rfl inX5 5 (by decide) rfl flX5_29 rfl dX5_isBetween_19 rfl ?_
      refine J_bipush (v := 80) (pc1 := 24) dX5_isBetween_22 (by decide) rfl ?_
      refine J_icmp_ge (tgt := 57) (pc1 := 27) dX5_isBetween_24 (by decide) (fun q3 => ?_) rfl (fun q3 => ?_)
      · rw [if_pos q3] at h
        refine J_iconst (v := 0) (pc1 := 58) dX5_isBetween_57 (by decide) rfl ?_
        cases h
        exact J_zret (by decide) hr hlk dX5_isBetween_58
      · rw [if_neg q3] at h
        refine J_aload_n (i := 0) (q := 0) (pc1 := 28) dX5_isBetween_27 rfl rfl rfl ?_
        refine J_getR (T := TX5) (f' := 2) (i' := 0) (pc1 := 31) eC1 rfl rfl inX5 0 (by decide) rfl rfl flX5_9 rfl dX5_isBetween_28 rfl ?_
        refine J_aload_n (i := 0) (q := 0) (pc1 := 32) dX5_isBetween_31 rfl rfl rfl ?_
        refine J_getI (T := TX5) (pc1 := 35) eC1 rfl rfl inX5 5 (by decide) rfl flX5_29 rfl dX5_isBetween_32 rfl ?_
        obtain ⟨h4, h⟩ := gChk_s h
        refine J_cald (ix := ((μ 1 0 5).toNatClampNeg)) (pc1 := 36) rfl eC2 rfl h4 dX5_isBetween_35 rfl ?_
        refine J_iload_n (i := 1) (q := 1) (pc1 := 37) dX5_isBetween_36 rfl rfl rfl ?_
        refine J_icmp_lt (tgt := 57) (pc1 := 40) dX5_isBetween_37 (by decide) (fun q5 => ?_) rfl (fun q5 => ?_)
        · rw [if_pos q5] at h
          refine J_iconst (v := 0) (pc1 := 58) dX5_isBetween_57 (by decide) rfl ?_
          cases h
          exact J_zret (by decide) hr hlk dX5_isBetween_58
        · rw [if_neg q5] at h
          refine J_aload_n (i := 0) (q := 0) (pc1 := 41) dX5_isBetween_40 rfl rfl rfl ?_
          refine J_getR (T := TX5) (f' := 2) (i' := 0) (pc1 := 44) eC1 rfl rfl inX5 0 (by decide) rfl rfl flX5_9 rfl dX5_isBetween_41 rfl ?_
          refine J_aload_n (i := 0) (q := 0) (pc1 := 45) dX5_isBetween_44 rfl rfl rfl ?_
          refine J_getI (T := TX5) (pc1 := 48) eC1 rfl rfl inX5 5 (by decide) rfl flX5_29 rfl dX5_isBetween_45 rfl ?_
          obtain ⟨h6, h⟩ := gChk_s h
          refine J_cald (ix := ((μ 1 0 5).toNatClampNeg)) (pc1 := 49) rfl eC2 rfl h6 dX5_isBetween_48 rfl ?_
          refine J_iload_n (i := 2) (q := 2) (pc1 := 50) dX5_isBetween_49 rfl rfl rfl ?_
          refine J_icmp_gt (tgt := 57) (pc1 := 53) dX5_isBetween_50 (by decide) (fun q7 => ?_) rfl (fun q7 => ?_)
          · rw [if_pos q7] at h
            refine J_iconst (v := 0) (pc1 := 58) dX5_isBetween_57 (by decide) rfl ?_
            cases h
            exact J_zret (by decide) hr hlk dX5_isBetween_58
          · rw [if_neg q7] at h
            refine J_iconst (v := 1) (pc1 := 54) dX5_isBetween_53 (by decide) rfl ?_
            refine J_goto (tgt := 58) dX5_isBetween_54 (by decide) ?_
            cases h
            exact J_zret (by decide) hr hlk dX5_isBetween_58
def mX5_skip (nc : Nat) (a1 : Int32) (μ : gM) : Option (Int32 × gM) :=
  gBp (mX5_isBetween nc a1 a1 μ) fun r2 =>
  if r2 = 0 then
    some (0, μ)
  else
    gLet (α := gM) (w3 μ 1 0 5 ((μ 1 0 5) + 1)) fun μ4 =>
    some (1, μ4)
set_option maxHeartbeats 4000000 in
set_option maxRecDepth 100000 in
theorem kX5_skip (l : Launch) (D : va_G) (tc : Nat → ClassId) (sa : Nat → Nat) (ad : Nat → Nat → Nat) (nc : Nat) (hnc : 0 < nc ∧ nc ≤ 2) (hI : gI (gE_C nc) ad) (a1 : Int32) (μ : gM) (r : Int32) (μ' : gM) (h : mX5_skip nc a1 μ = some (r, μ')) : gMet l yX5_skip cX5_skip 2 (some .boolean) ({ frames := 1, cells := 0, slots := 0, locals := 22 } : Room) D (gE_C nc) gkd_C tc ad (grh_C nc) sa [.ref (ad 1 0), .int a1] μ (some (.int r)) μ' := by
  refine gMet_of hI ⟨by decide +kernel, Nat.le_of_ble_eq_true rfl⟩ (fun p e s m args below meth c sz hr hlk => ?_)
  unfold mX5_skip at h
  show JC p l e ({ frames := 1, cells := 0, slots := 0, locals := 22 } : Room) s m args below meth c cX5_skip 2 RX5 D tc sa ad nc sz (some (.int r)) μ' μ 0 [(0, .ref (ad 1 0)), (1, .int a1)] []
  refine J_aload_n (i := 0) (q := 0) (pc1 := 1) dX5_skip_0 rfl rfl rfl ?_
  refine J_iload_n (i := 1) (q := 1) (pc1 := 2) dX5_skip_1 rfl rfl rfl ?_
  refine J_iload_n (i := 1) (q := 1) (pc1 := 3) dX5_skip_2 rfl rfl rfl ?_
  obtain ⟨r2, hc1, h⟩ := gBp_s h
  refine J_callV (As := [.int a1, .int a1]) (ad := ad) (f := 1) (i := 0) (st := []) (st1 := [.int r2]) (pc1 := 6) (kX5_isBetween l D tc sa ad nc hnc hI a1 a1 μ r2 hc1) wcX5_isBetween wlX5_36 eC1 rfl rfl rfl ⟨rfl, rfl, Nat.le_of_ble_eq_true rfl, Nat.le_of_ble_eq_true rfl⟩ ⟨Nat.zero_le _, Nat.zero_le _⟩ (Nat.le_of_ble_eq_true rfl) dX5_skip_3 rfl rfl ?_
  refine J_if_ne (tgt := 11) (pc1 := 9) dX5_skip_6 (by decide) (fun q3 => ?_) rfl (fun q3 => ?_)
  · rw [if_neg q3] at h
    refine J_aload_n (i := 0) (q := 0) (pc1 := 12) dX5_skip_11 rfl rfl rfl ?_
    refine J_dup (pc1 := 13) dX5_skip_12 rfl rfl ?_
    refine J_getI (T := TX5) (pc1 := 16) eC1 rfl rfl inX5 5 (by decide) rfl flX5_29 rfl dX5_skip_13 rfl ?_
    refine J_iconst (v := 1) (pc1 := 17) dX5_skip_16 (by decide) rfl ?_
    refine J_iadd (pc1 := 18) dX5_skip_17 rfl ?_
    refine J_putI (T := TX5) (pc1 := 21) eC1 rfl rfl inX5 tyX5 tyX5_ok nmX5 5 (by decide) rfl (fun _ _ _ _ => gh1) flX5_29 rfl rfl rfl rfl dX5_skip_18 rfl ?_
    obtain ⟨μ4, e5, h⟩ := gLet_s h
    rw [← e5]
    clear e5
    refine J_iconst (v := 1) (pc1 := 22) dX5_skip_21 (by decide) rfl ?_
    cases h
    exact J_zret (by decide) hr hlk dX5_skip_22
  · rw [if_pos q3] at h
    refine J_iconst (v := 0) (pc1 := 10) dX5_skip_9 (by decide) rfl ?_
    cases h
    exact J_zret (by decide) hr hlk dX5_skip_10
def mX5_parseNumber (nc : Nat) (f1 : Nat) (i1 : Nat) (a2 : Int32) (μ : gM) : Option (Int32 × gM) :=
  gLet (α := Int32) (μ 1 0 5) fun x1 =>
  gJon (fun (x5 : Int32) (μ6 : gM) =>
      gChk (inb a2 16) <|
      gLet (α := gM) (w3 μ6 f1 i1 (a2.toNatClampNeg) x5) fun μ9 =>
      if (μ9 1 0 5) ≤ x1 then
        some (0, μ9)
      else
        some (1, μ9)) fun j7 =>
  gFx2 (fun rec14 (x12 : Int32) (μ13 : gM) =>
      if (x1 + 3) ≤ (μ13 1 0 5) then
        j7 x12 μ13
      else
        gBp (mX5_isBetween nc 48 57 μ13) fun r17 =>
        if r17 = 0 then
          j7 x12 μ13
        else
          gChk (inb (μ13 1 0 5) 80) <|
          gLet (α := Int32) (((10 * x12) + (μ13 2 0 ((μ13 1 0 5).toNatClampNeg))) - 48) fun x20 =>
          gLet (α := gM) (w3 μ13 1 0 5 ((μ13 1 0 5) + 1)) fun μ24 =>
          rec14 x20 μ24) 1000000 0 μ
set_option maxHeartbeats 4000000 in
set_option maxRecDepth 100000 in
theorem kX5_parseNumber (l : Launch) (D : va_G) (tc : Nat → ClassId) (sa : Nat → Nat) (ad : Nat → Nat → Nat) (nc : Nat) (hnc : 0 < nc ∧ nc ≤ 2) (hI : gI (gE_C nc) ad) (f1 : Nat) (i1 : Nat) (hf1 : (f1, i1) ∈ gE_C nc) (hk1 : gkd_C f1 = .inr (.inl (0, 16))) (a2 : Int32) (μ : gM) (r : Int32) (μ' : gM) (h : mX5_parseNumber nc f1 i1 a2 μ = some (r, μ')) : gMet l yX5_parseNumber cX5_parseNumber 5 (some .boolean) ({ frames := 1, cells := 0, slots := 0, locals := 22 } : Room) D (gE_C nc) gkd_C tc ad (grh_C nc) sa [.ref (ad 1 0), .ref (ad f1 i1), .int a2] μ (some (.int r)) μ' := by
  refine gMet_of hI ⟨by decide +kernel, Nat.le_of_ble_eq_true rfl⟩ (fun p e s m args below meth c sz hr hlk => ?_)
  unfold mX5_parseNumber at h
  show JC p l e ({ frames := 1, cells := 0, slots := 0, locals := 22 } : Room) s m args below meth c cX5_parseNumber 5 RX5 D tc sa ad nc sz (some (.int r)) μ' μ 0 [(0, .ref (ad 1 0)), (1, .ref (ad f1 i1)), (2, .int a2)] []
  refine J_aload_n (i := 0) (q := 0) (pc1 := 1) dX5_parseNumber_0 rfl rfl rfl ?_
  refine J_getI (T := TX5) (pc1 := 4) eC1 rfl rfl inX5 5 (by decide) rfl flX5_29 rfl dX5_parseNumber_1 rfl ?_
  obtain ⟨x1, e3, h⟩ := gLet_s h
  refine J_top (fun y2 e4 => ?_)
  have e4x : x1 = y2 := (e4.trans e3.symm).symm
  subst e4x
  refine J_istore_n (i := 3) (lv1 := [(3, .int x1), (0, .ref (ad 1 0)), (1, .ref (ad f1 i1)), (2, .int a2)]) (pc1 := 5) dX5_parseNumber_4 rfl (by decide) rfl rfl ?_
  refine J_iconst (v := 0) (pc1 := 6) dX5_parseNumber_5 (by decide) rfl ?_
  refine J_istore (i := 4) (lv1 := [(4, .int 0), (3, .int x1), (0, .ref (ad 1 0)), (1, .ref (ad f1 i1)), (2, .int a2)]) (pc1 := 8) dX5_parseNumber_6 (by decide) rfl rfl ?_
  obtain ⟨j7, ej7, h⟩ := gJon_s h
  have kj7 : ∀ (x5 : Int32) (μ6 : gM), j7 x5 μ6 = some (r, μ') → JC p l e ({ frames := 1, cells := 0, slots := 0, locals := 22 } : Room) s m args below meth c cX5_parseNumber 5 RX5 D tc sa ad nc sz (some (.int r)) μ' μ6 62 [(0, .ref (ad 1 0)), (1, .ref (ad f1 i1)), (2, .int a2), (3, .int x1), (4, .int x5)] [] := by
    intro x5 μ6 h
    rw [ej7] at h
    try dsimp only at h
    refine J_aload_n (i := 1) (q := 1) (pc1 := 63) dX5_parseNumber_62 rfl rfl rfl ?_
    refine J_iload_n (i := 2) (q := 2) (pc1 := 64) dX5_parseNumber_63 rfl rfl rfl ?_
    refine J_iload (i := 4) (q := 4) (pc1 := 66) dX5_parseNumber_64 rfl rfl ?_
    obtain ⟨h8, h⟩ := gChk_s h
    refine J_iast (ix := (a2.toNatClampNeg)) (pc1 := 67) rfl hf1 hk1 h8 dX5_parseNumber_66 rfl ?_
    obtain ⟨μ9, e10, h⟩ := gLet_s h
    rw [← e10]
    clear e10
    refine J_aload_n (i := 0) (q := 0) (pc1 := 68) dX5_parseNumber_67 rfl rfl rfl ?_
    refine J_getI (T := TX5) (pc1 := 71) eC1 rfl rfl inX5 5 (by decide) rfl flX5_29 rfl dX5_parseNumber_68 rfl ?_
    refine J_iload_n (i := 3) (q := 3) (pc1 := 72) dX5_parseNumber_71 rfl rfl rfl ?_
    refine J_icmp_le (tgt := 79) (pc1 := 75) dX5_parseNumber_72 (by decide) (fun q11 => ?_) rfl (fun q11 => ?_)
    · rw [if_pos q11] at h
      refine J_iconst (v := 0) (pc1 := 80) dX5_parseNumber_79 (by decide) rfl ?_
      cases h
      exact J_zret (by decide) hr hlk dX5_parseNumber_80
    · rw [if_neg q11] at h
      refine J_iconst (v := 1) (pc1 := 76) dX5_parseNumber_75 (by decide) rfl ?_
      refine J_goto (tgt := 80) dX5_parseNumber_76 (by decide) ?_
      cases h
      exact J_zret (by decide) hr hlk dX5_parseNumber_80
  clear ej7
  refine J_sub [2, 3, 4, 1, 0] (lv1 := [(0, .ref (ad 1 0)), (1, .ref (ad f1 i1)), (2, .int a2), (3, .int x1), (4, .int 0)]) rfl ?_
  refine gFx2_s (P := fun x12 μ13 => JC p l e ({ frames := 1, cells := 0, slots := 0, locals := 22 } : Room) s m args below meth c cX5_parseNumber 5 RX5 D tc sa ad nc sz (some (.int r)) μ' μ13 8 [(0, .ref (ad 1 0)), (1, .ref (ad f1 i1)), (2, .int a2), (3, .int x1), (4, .int x12)] []) (fun rec14 ihrec14 x12 μ13 h => ?_) _ _ _ h
  try dsimp only at h
  refine J_aload_n (i := 0) (q := 0) (pc1 := 9) dX5_parseNumber_8 rfl rfl rfl ?_
  refine J_getI (T := TX5) (pc1 := 12) eC1 rfl rfl inX5 5 (by decide) rfl flX5_29 rfl dX5_parseNumber_9 rfl ?_
  refine J_iload_n (i := 3) (q := 3) (pc1 := 13) dX5_parseNumber_12 rfl rfl rfl ?_
  refine J_iconst (v := 3) (pc1 := 14) dX5_parseNumber_13 (by decide) rfl ?_
  refine J_iadd (pc1 := 15) dX5_parseNumber_14 rfl ?_
  refine J_icmp_ge (tgt := 62) (pc1 := 18) dX5_parseNumber_15 (by decide) (fun q15 => ?_) rfl (fun q15 => ?_)
  · rw [if_pos q15] at h
    exact kj7 _ _ h
  · rw [if_neg q15] at h
    refine J_aload_n (i := 0) (q := 0) (pc1 := 19) dX5_parseNumber_18 rfl rfl rfl ?_
    refine J_bipush (v := 48) (pc1 := 21) dX5_parseNumber_19 (by decide) rfl ?_
    refine J_bipush (v := 57) (pc1 := 23) dX5_parseNumber_21 (by decide) rfl ?_
    obtain ⟨r17, hc16, h⟩ := gBp_s h
    refine J_callV (As := [.int 48, .int 57]) (ad := ad) (f := 1) (i := 0) (st := []) (st1 := [.int r17]) (pc1 := 26) (kX5_isBetween l D tc sa ad nc hnc hI 48 57 μ13 r17 hc16) wcX5_isBetween wlX5_36 eC1 rfl rfl rfl ⟨rfl, rfl, Nat.le_of_ble_eq_true rfl, Nat.le_of_ble_eq_true rfl⟩ ⟨Nat.zero_le _, Nat.zero_le _⟩ (Nat.le_of_ble_eq_true rfl) dX5_parseNumber_23 rfl rfl ?_
    refine J_if_eq (tgt := 62) (pc1 := 29) dX5_parseNumber_26 (by decide) (fun q18 => ?_) rfl (fun q18 => ?_)
    · rw [if_pos q18] at h
      exact kj7 _ _ h
    · rw [if_neg q18] at h
      refine J_bipush (v := 10) (pc1 := 31) dX5_parseNumber_29 (by decide) rfl ?_
      refine J_iload (i := 4) (q := 4) (pc1 := 33) dX5_parseNumber_31 rfl rfl ?_
      refine J_imul (pc1 := 34) dX5_parseNumber_33 rfl ?_
      refine J_aload_n (i := 0) (q := 0) (pc1 := 35) dX5_parseNumber_34 rfl rfl rfl ?_
      refine J_getR (T := TX5) (f' := 2) (i' := 0) (pc1 := 38) eC1 rfl rfl inX5 0 (by decide) rfl rfl flX5_9 rfl dX5_parseNumber_35 rfl ?_
      refine J_aload_n (i := 0) (q := 0) (pc1 := 39) dX5_parseNumber_38 rfl rfl rfl ?_
      refine J_getI (T := TX5) (pc1 := 42) eC1 rfl rfl inX5 5 (by decide) rfl flX5_29 rfl dX5_parseNumber_39 rfl ?_
      obtain ⟨h19, h⟩ := gChk_s h
      refine J_cald (ix := ((μ13 1 0 5).toNatClampNeg)) (pc1 := 43) rfl eC2 rfl h19 dX5_parseNumber_42 rfl ?_
      refine J_iadd (pc1 := 44) dX5_parseNumber_43 rfl ?_
      refine J_bipush (v := 48) (pc1 := 46) dX5_parseNumber_44 (by decide) rfl ?_
      refine J_isub (pc1 := 47) dX5_parseNumber_46 rfl ?_
      obtain ⟨x20, e22, h⟩ := gLet_s h
      refine J_top (fun y21 e23 => ?_)
      have e23x : x20 = y21 := (e23.trans e22.symm).symm
      subst e23x
      refine J_istore (i := 4) (lv1 := [(4, .int x20), (0, .ref (ad 1 0)), (1, .ref (ad f1 i1)), (2, .int a2), (3, .int x1)]) (pc1 := 49) dX5_parseNumber_47 (by decide) rfl rfl ?_
      refine J_aload_n (i := 0) (q := 1) (pc1 := 50) dX5_parseNumber_49 rfl rfl rfl ?_
      refine J_dup (pc1 := 51) dX5_parseNumber_50 rfl rfl ?_
      refine J_getI (T := TX5) (pc1 := 54) eC1 rfl rfl inX5 5 (by decide) rfl flX5_29 rfl dX5_parseNumber_51 rfl ?_
      refine J_iconst (v := 1) (pc1 := 55) dX5_parseNumber_54 (by decide) rfl ?_
      refine J_iadd (pc1 := 56) dX5_parseNumber_55 rfl ?_
      refine J_putI (T := TX5) (pc1 := 59) eC1 rfl rfl inX5 tyX5 tyX5_ok nmX5 5 (by decide) rfl (fun _ _ _ _ => gh1) flX5_29 rfl rfl rfl rfl dX5_parseNumber_56 rfl ?_
      obtain ⟨μ24, e25, h⟩ := gLet_s h
      rw [← e25]
      clear e25
      refine J_goto (tgt := 8) dX5_parseNumber_59 (by decide) ?_
      refine J_sub [1, 2, 3, 4, 0] (lv1 := [(0, .ref (ad 1 0)), (1, .ref (ad f1 i1)), (2, .int a2), (3, .int x1), (4, .int x20)]) rfl ?_
      exact ihrec14 _ _ h
def mX6_isGroup (nc : Nat) (a1 : Int32) (μ : gM) : Option Int32 :=
  if a1 ≤ 0 then
    some 0
  else
    if 32 ≤ a1 then
      some 0
    else
      some 1
set_option maxHeartbeats 4000000 in
set_option maxRecDepth 100000 in
theorem kX6_isGroup (l : Launch) (D : va_G) (tc : Nat → ClassId) (sa : Nat → Nat) (ad : Nat → Nat → Nat) (nc : Nat) (hnc : 0 < nc ∧ nc ≤ 2) (hI : gI (gE_C nc) ad) (a1 : Int32) (μ : gM) (r : Int32) (h : mX6_isGroup nc a1 μ = some r) : gMet l yX6_isGroup cX6_isGroup 1 (some .boolean) ({ frames := 0, cells := 0, slots := 0, locals := 0 } : Room) D (gE_C nc) gkd_C tc ad (grh_C nc) sa [.int a1] μ (some (.int r)) μ := by
  refine gMet_of hI ⟨by decide +kernel, Nat.le_of_ble_eq_true rfl⟩ (fun p e s m args below meth c sz hr hlk => ?_)
  unfold mX6_isGroup at h
  show JC p l e ({ frames := 0, cells := 0, slots := 0, locals := 0 } : Room) s m args below meth c cX6_isGroup 1 RX6 D tc sa ad nc sz (some (.int r)) μ μ 0 [(0, .int a1)] []
  refine J_iload_n (i := 0) (q := 0) (pc1 := 1) dX6_isGroup_0 rfl rfl rfl ?_
  refine J_if_le (tgt := 14) (pc1 := 4) dX6_isGroup_1 (by decide) (fun q1 => ?_) rfl (fun q1 => ?_)
  · rw [if_pos q1] at h
    refine J_iconst (v := 0) (pc1 := 15) dX6_isGroup_14 (by decide) rfl ?_
    cases h
    exact J_zret (by decide) hr hlk dX6_isGroup_15
  · rw [if_neg q1] at h
    refine J_iload_n (i := 0) (q := 0) (pc1 := 5) dX6_isGroup_4 rfl rfl rfl ?_
    refine J_bipush (v := 32) (pc1 := 7) dX6_isGroup_5 (by decide) rfl ?_
    refine J_icmp_ge (tgt := 14) (pc1 := 10) dX6_isGroup_7 (by decide) (fun q2 => ?_) rfl (fun q2 => ?_)
    · rw [if_pos q2] at h
      refine J_iconst (v := 0) (pc1 := 15) dX6_isGroup_14 (by decide) rfl ?_
      cases h
      exact J_zret (by decide) hr hlk dX6_isGroup_15
    · rw [if_neg q2] at h
      refine J_iconst (v := 1) (pc1 := 11) dX6_isGroup_10 (by decide) rfl ?_
      refine J_goto (tgt := 15) dX6_isGroup_11 (by decide) ?_
      cases h
      exact J_zret (by decide) hr hlk dX6_isGroup_15
def mX6_areTicks (nc : Nat) (a1 : Int32) (μ : gM) : Option Int32 :=
  if a1 < 1 then
    some 0
  else
    if 60 < a1 then
      some 0
    else
      some 1
set_option maxHeartbeats 4000000 in
set_option maxRecDepth 100000 in
theorem kX6_areTicks (l : Launch) (D : va_G) (tc : Nat → ClassId) (sa : Nat → Nat) (ad : Nat → Nat → Nat) (nc : Nat) (hnc : 0 < nc ∧ nc ≤ 2) (hI : gI (gE_C nc) ad) (a1 : Int32) (μ : gM) (r : Int32) (h : mX6_areTicks nc a1 μ = some r) : gMet l yX6_areTicks cX6_areTicks 1 (some .boolean) ({ frames := 0, cells := 0, slots := 0, locals := 0 } : Room) D (gE_C nc) gkd_C tc ad (grh_C nc) sa [.int a1] μ (some (.int r)) μ := by
  refine gMet_of hI ⟨by decide +kernel, Nat.le_of_ble_eq_true rfl⟩ (fun p e s m args below meth c sz hr hlk => ?_)
  unfold mX6_areTicks at h
  show JC p l e ({ frames := 0, cells := 0, slots := 0, locals := 0 } : Room) s m args below meth c cX6_areTicks 1 RX6 D tc sa ad nc sz (some (.int r)) μ μ 0 [(0, .int a1)] []
  refine J_iload_n (i := 0) (q := 0) (pc1 := 1) dX6_areTicks_0 rfl rfl rfl ?_
  refine J_iconst (v := 1) (pc1 := 2) dX6_areTicks_1 (by decide) rfl ?_
  refine J_icmp_lt (tgt := 15) (pc1 := 5) dX6_areTicks_2 (by decide) (fun q1 => ?_) rfl (fun q1 => ?_)
  · rw [if_pos q1] at h
    refine J_iconst (v := 0) (pc1 := 16) dX6_areTicks_15 (by decide) rfl ?_
    cases h
    exact J_zret (by decide) hr hlk dX6_areTicks_16
  · rw [if_neg q1] at h
    refine J_iload_n (i := 0) (q := 0) (pc1 := 6) dX6_areTicks_5 rfl rfl rfl ?_
    refine J_bipush (v := 60) (pc1 := 8) dX6_areTicks_6 (by decide) rfl ?_
    refine J_icmp_gt (tgt := 15) (pc1 := 11) dX6_areTicks_8 (by decide) (fun q2 => ?_) rfl (fun q2 => ?_)
    · rw [if_pos q2] at h
      refine J_iconst (v := 0) (pc1 := 16) dX6_areTicks_15 (by decide) rfl ?_
      cases h
      exact J_zret (by decide) hr hlk dX6_areTicks_16
    · rw [if_neg q2] at h
      refine J_iconst (v := 1) (pc1 := 12) dX6_areTicks_11 (by decide) rfl ?_
      refine J_goto (tgt := 16) dX6_areTicks_12 (by decide) ?_
      cases h
      exact J_zret (by decide) hr hlk dX6_areTicks_16
