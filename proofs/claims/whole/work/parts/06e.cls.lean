theorem wlX5_70 : Cond.methodLink RX5 70 yJ0_length_8abf5 ∈ BIG := bigT5 (i := 161) rfl rfl
theorem wlX5_75 : Cond.methodLink RX5 75 yJ0_charAt_5068e ∈ BIG := bigT5 (i := 170) rfl rfl
theorem wlX5_54 : Cond.methodLink RX5 54 yX5_isWord ∈ BIG := bigT5 (i := 157) rfl rfl
theorem imX5_isWord : Cond.instanceMethod yX5_isWord ∈ BIG := bigT5 (i := 159) rfl rfl
theorem seX5_isWord : Cond.selects yX5_isWord.cls yX5_isWord yX5_isWord ∈ BIG := bigS2 (i := 10) (q := (yX5_isWord, 6)) rfl
theorem cdX5_isWord : Cond.code yX5_isWord cX5_isWord 4 (some .boolean) ∈ BIG := bigT5 (i := 160) rfl rfl
theorem wcX5_isWord : wCv yX5_isWord cX5_isWord 4 (some .boolean) 2 := ⟨⟨imX5_isWord, seX5_isWord, iniX5, cdX5_isWord⟩, by decide +kernel⟩
theorem wlX5_40 : Cond.methodLink RX5 40 yX5_wordFrom ∈ BIG := bigT5 (i := 152) rfl rfl
theorem imX5_wordFrom : Cond.instanceMethod yX5_wordFrom ∈ BIG := bigT5 (i := 154) rfl rfl
theorem seX5_wordFrom : Cond.selects yX5_wordFrom.cls yX5_wordFrom yX5_wordFrom ∈ BIG := bigS2 (i := 9) (q := (yX5_wordFrom, 6)) rfl
theorem cdX5_wordFrom : Cond.code yX5_wordFrom cX5_wordFrom 2 (some .int) ∈ BIG := bigT5 (i := 155) rfl rfl
theorem wcX5_wordFrom : wCv yX5_wordFrom cX5_wordFrom 2 (some .int) 1 := ⟨⟨imX5_wordFrom, seX5_wordFrom, iniX5, cdX5_wordFrom⟩, by decide +kernel⟩
theorem flX5_15 : Cond.fieldLink RX5 15 "QuorumLog$Script" "words" "[I" ∈ BIG := bigT2 (i := 98) rfl rfl
theorem wlX5_44 : Cond.methodLink RX5 44 yX5_skip ∈ BIG := bigT5 (i := 214) rfl rfl
theorem imX5_skip : Cond.instanceMethod yX5_skip ∈ BIG := bigT5 (i := 216) rfl rfl
theorem seX5_skip : Cond.selects yX5_skip.cls yX5_skip yX5_skip ∈ BIG := bigS2 (i := 11) (q := (yX5_skip, 6)) rfl
theorem cdX5_skip : Cond.code yX5_skip cX5_skip 2 (some .boolean) ∈ BIG := bigT5 (i := 217) rfl rfl
theorem wcX5_skip : wCv yX5_skip cX5_skip 2 (some .boolean) 1 := ⟨⟨imX5_skip, seX5_skip, iniX5, cdX5_skip⟩, by decide +kernel⟩
theorem flX5_19 : Cond.fieldLink RX5 19 "QuorumLog$Script" "firsts" "[I" ∈ BIG := bigT2 (i := 100) rfl rfl
theorem wlX5_48 : Cond.methodLink RX5 48 yX5_parseNumber ∈ BIG := bigT5 (i := 218) rfl rfl
theorem imX5_parseNumber : Cond.instanceMethod yX5_parseNumber ∈ BIG := bigT5 (i := 220) rfl rfl
theorem seX5_parseNumber : Cond.selects yX5_parseNumber.cls yX5_parseNumber yX5_parseNumber ∈ BIG := bigS2 (i := 12) (q := (yX5_parseNumber, 6)) rfl
theorem cdX5_parseNumber : Cond.code yX5_parseNumber cX5_parseNumber 5 (some .boolean) ∈ BIG := bigT5 (i := 221) rfl rfl
theorem wcX5_parseNumber : wCv yX5_parseNumber cX5_parseNumber 5 (some .boolean) 2 := ⟨⟨imX5_parseNumber, seX5_parseNumber, iniX5, cdX5_parseNumber⟩, by decide +kernel⟩
theorem flX5_22 : Cond.fieldLink RX5 22 "QuorumLog$Script" "seconds" "[I" ∈ BIG := bigT2 (i := 102) rfl rfl
theorem wlX5_32 : Cond.methodLink RX5 32 yX5_parseCommand ∈ BIG := bigT5 (i := 144) rfl rfl
theorem imX5_parseCommand : Cond.instanceMethod yX5_parseCommand ∈ BIG := bigT5 (i := 146) rfl rfl
theorem seX5_parseCommand : Cond.selects yX5_parseCommand.cls yX5_parseCommand yX5_parseCommand ∈ BIG := bigS2 (i := 7) (q := (yX5_parseCommand, 6)) rfl
theorem cdX5_parseCommand : Cond.code yX5_parseCommand cX5_parseCommand 5 (some .boolean) ∈ BIG := bigT5 (i := 147) rfl rfl
theorem wcX5_parseCommand : wCv yX5_parseCommand cX5_parseCommand 5 (some .boolean) 1 := ⟨⟨imX5_parseCommand, seX5_parseCommand, iniX5, cdX5_parseCommand⟩, by decide +kernel⟩
theorem wlX6_318 : Cond.methodLink RX6 318 yX5_parse ∈ BIG := bigT5 (i := 140) rfl rfl
theorem imX5_parse : Cond.instanceMethod yX5_parse ∈ BIG := bigT5 (i := 141) rfl rfl
theorem seX5_parse : Cond.selects yX5_parse.cls yX5_parse yX5_parse ∈ BIG := bigT5 (i := 142) rfl rfl
theorem cdX5_parse : Cond.code yX5_parse cX5_parse 2 (some .int) ∈ BIG := bigT5 (i := 143) rfl rfl
theorem wcX5_parse : wCv yX5_parse cX5_parse 2 (some .int) 0 := ⟨⟨imX5_parse, seX5_parse, iniX5, cdX5_parse⟩, by decide +kernel⟩
theorem flX6_321 : Cond.fieldLink RX6 321 "QuorumLog$Script" "words" "[I" ∈ BIG := bigT2 (i := 99) rfl rfl
theorem flX6_324 : Cond.fieldLink RX6 324 "QuorumLog$Script" "firsts" "[I" ∈ BIG := bigT2 (i := 101) rfl rfl
theorem flX6_327 : Cond.fieldLink RX6 327 "QuorumLog$Script" "seconds" "[I" ∈ BIG := bigT2 (i := 103) rfl rfl
theorem wlX6_330 : Cond.methodLink RX6 330 yX6_isPossible ∈ BIG := bigT5 (i := 222) rfl rfl
theorem imX6_isPossible : Cond.instanceMethod yX6_isPossible ∈ BIG := bigT5 (i := 224) rfl rfl
theorem seX6_isPossible : Cond.selects yX6_isPossible.cls yX6_isPossible yX6_isPossible ∈ BIG := bigS2 (i := 13) (q := (yX6_isPossible, 4)) rfl
theorem cdX6_isPossible : Cond.code yX6_isPossible cX6_isPossible 5 (some .boolean) ∈ BIG := bigT5 (i := 225) rfl rfl
theorem wcX6_isPossible : wCv yX6_isPossible cX6_isPossible 5 (some .boolean) 3 := ⟨⟨imX6_isPossible, seX6_isPossible, iniX6, cdX6_isPossible⟩, by decide +kernel⟩
theorem wlX6_336 : Cond.methodLink RX6 336 yX6_carryOut ∈ BIG := bigT5 (i := 227) rfl rfl
theorem imX6_carryOut : Cond.instanceMethod yX6_carryOut ∈ BIG := bigT5 (i := 229) rfl rfl
theorem seX6_carryOut : Cond.selects yX6_carryOut.cls yX6_carryOut yX6_carryOut ∈ BIG := bigS2 (i := 14) (q := (yX6_carryOut, 4)) rfl
theorem cdX6_carryOut : Cond.code yX6_carryOut cX6_carryOut 5 (none) ∈ BIG := bigT5 (i := 230) rfl rfl
theorem wcX6_carryOut : wCv yX6_carryOut cX6_carryOut 5 (none) 3 := ⟨⟨imX6_carryOut, seX6_carryOut, iniX6, cdX6_carryOut⟩, by decide +kernel⟩
theorem wlX6_301 : Cond.methodLink RX6 301 yX1_members ∈ BIG := bigT5 (i := 110) rfl rfl
theorem imX1_members : Cond.instanceMethod yX1_members ∈ BIG := bigT5 (i := 111) rfl rfl
theorem seX1_members : Cond.selects yX1_members.cls yX1_members yX1_members ∈ BIG := bigT5 (i := 112) rfl rfl
theorem cdX1_members : Cond.code yX1_members cX1_members 1 (some .int) ∈ BIG := bigT5 (i := 113) rfl rfl
theorem wcX1_members : wCv yX1_members cX1_members 1 (some .int) 0 := ⟨⟨imX1_members, seX1_members, iniX1, cdX1_members⟩, by decide +kernel⟩
theorem clX6_304 : Cond.classLink RX6 304 "java/lang/ArithmeticException" ∈ BIG := bigT5 (i := 114) rfl rfl
theorem ini_ArithmeticException : Cond.initialized "java/lang/ArithmeticException" ∈ BIG := bigT1 (i := 26) rfl rfl
def mX5_isWord (nc : Nat) (w1 : Nat) (a2 : Int32) (μ : gM) : Option Int32 :=
  gLet (α := Int32) (Int32.ofNat (jsB w1).length) fun x1 =>
  if ((μ 1 0 5) - a2) = x1 then
    gJon (fun (u7 : Unit) =>
        some 1) fun j6 =>
    gFx1 (fun rec9 (x8 : Int32) =>
        gLet (α := Int32) (Int32.ofNat (jsB w1).length) fun x10 =>
        if x10 ≤ x8 then
          j6 () 
        else
          gChk (inb x8 (jsB w1).length) <|
          gChk (x8 < Int32.ofNat (jsB w1).length) <|
          gChk (vp_nar .char (i2c ((jsB w1).getD x8.toNatClampNeg 0 &&& 255)) = i2c ((jsB w1).getD x8.toNatClampNeg 0 &&& 255)) <|
          gLet (α := Int32) (i2c ((jsB w1).getD x8.toNatClampNeg 0 &&& 255)) fun x18 =>
          gChk (inb (a2 + x8) 80) <|
          if x18 = (μ 2 0 ((a2 + x8).toNatClampNeg)) then
            rec9 (x8 + 1)
          else
            some 0) 1000000 0
  else
    some 0
set_option maxHeartbeats 4000000 in
set_option maxRecDepth 100000 in
theorem kX5_isWord (l : Launch) (D : va_G) (tc : Nat → ClassId) (sa : Nat → Nat) (ad : Nat → Nat → Nat) (nc : Nat) (hnc : 0 < nc ∧ nc ≤ 2) (hI : gI (gE_C nc) ad) (w1 : Nat) (hw1 : 24 ≤ w1 ∧ w1 < 33) (a2 : Int32) (μ : gM) (r : Int32) (h : mX5_isWord nc w1 a2 μ = some r) : gMet l yX5_isWord cX5_isWord 4 (some .boolean) ({ frames := 4, cells := 0, slots := 0, locals := 90 } : Room) D (gE_C nc) gkd_C tc ad (grh_C nc) sa [.ref (ad 1 0), .ref (sa (3 * w1)), .int a2] μ (some (.int r)) μ := by
  refine gMet_of hI ⟨by decide +kernel, Nat.le_of_ble_eq_true rfl⟩ (fun p e s m args below meth c sz hr hlk => ?_)
  unfold mX5_isWord at h
  show JC p l e ({ frames := 4, cells := 0, slots := 0, locals := 90 } : Room) s m args below meth c cX5_isWord 4 RX5 D tc sa ad nc sz (some (.int r)) μ μ 0 [(0, .ref (ad 1 0)), (1, .ref (sa (3 * w1))), (2, .int a2)] []
  refine J_aload_n (i := 0) (q := 0) (pc1 := 1) dX5_isWord_0 rfl rfl rfl ?_
  refine J_getI (T := TX5) (pc1 := 4) eC1 rfl rfl inX5 5 (by decide) rfl flX5_29 rfl dX5_isWord_1 rfl ?_
  refine J_iload_n (i := 2) (q := 2) (pc1 := 5) dX5_isWord_4 rfl rfl rfl ?_
  refine J_isub (pc1 := 6) dX5_isWord_5 rfl ?_
  refine J_aload_n (i := 1) (q := 1) (pc1 := 7) dX5_isWord_6 rfl rfl rfl ?_
  refine J_callK (As := []) (pc1 := 10) (st := [.int ((μ 1 0 5) - a2)]) (st1 := [.int (Int32.ofNat (jsB w1).length), .int ((μ 1 0 5) - a2)]) hw1 (kJ0_length l D (gE_C nc) gkd_C tc sa ad (grh_C nc) hI μ hw1) wcJ0_length_8abf5 wlX5_70 rfl rfl ⟨rfl, rfl, Nat.le_of_ble_eq_true rfl, Nat.le_of_ble_eq_true rfl⟩ ⟨Nat.zero_le _, Nat.zero_le _⟩ (Nat.le_of_ble_eq_true rfl) dX5_isWord_7 rfl rfl ?_
  obtain ⟨x1, e3, h⟩ := gLet_s h
  refine J_top (fun y2 e4 => ?_)
  have e4x : x1 = y2 := (e4.trans e3.symm).symm
  subst e4x
  refine J_icmp_eq (tgt := 15) (pc1 := 13) dX5_isWord_10 (by decide) (fun q5 => ?_) rfl (fun q5 => ?_)
  · rw [if_pos q5] at h
    refine J_iconst (v := 0) (pc1 := 16) dX5_isWord_15 (by decide) rfl ?_
    refine J_istore_n (i := 3) (lv1 := [(3, .int 0), (0, .ref (ad 1 0)), (1, .ref (sa (3 * w1))), (2, .int a2)]) (pc1 := 17) dX5_isWord_16 rfl (by decide) rfl rfl ?_
    obtain ⟨j6, ej6, h⟩ := gJon_s h
    have kj6 : ∀ (u7 : Unit), j6 u7 = some r → JC p l e ({ frames := 4, cells := 0, slots := 0, locals := 90 } : Room) s m args below meth c cX5_isWord 4 RX5 D tc sa ad nc sz (some (.int r)) μ μ 49 [] [] := by
      intro u7 h
      rw [ej6] at h
      try dsimp only at h
      refine J_iconst (v := 1) (pc1 := 50) dX5_isWord_49 (by decide) rfl ?_
      cases h
      exact J_zret (by decide) hr hlk dX5_isWord_50
    clear ej6
    refine J_sub [1, 2, 3, 0] (lv1 := [(0, .ref (ad 1 0)), (1, .ref (sa (3 * w1))), (2, .int a2), (3, .int 0)]) rfl ?_
    refine gFx1_s (P := fun x8 => JC p l e ({ frames := 4, cells := 0, slots := 0, locals := 90 } : Room) s m args below meth c cX5_isWord 4 RX5 D tc sa ad nc sz (some (.int r)) μ μ 17 [(0, .ref (ad 1 0)), (1, .ref (sa (3 * w1))), (2, .int a2), (3, .int x8)] []) (fun rec9 ihrec9 x8 h => ?_) _ _ h
    try dsimp only at h
    refine J_iload_n (i := 3) (q := 3) (pc1 := 18) dX5_isWord_17 rfl rfl rfl ?_
    refine J_aload_n (i := 1) (q := 1) (pc1 := 19) dX5_isWord_18 rfl rfl rfl ?_
    refine J_callK (As := []) (pc1 := 22) (st := [.int x8]) (st1 := [.int (Int32.ofNat (jsB w1).length), .int x8]) hw1 (kJ0_length l D (gE_C nc) gkd_C tc sa ad (grh_C nc) hI μ hw1) wcJ0_length_8abf5 wlX5_70 rfl rfl ⟨rfl, rfl, Nat.le_of_ble_eq_true rfl, Nat.le_of_ble_eq_true rfl⟩ ⟨Nat.zero_le _, Nat.zero_le _⟩ (Nat.le_of_ble_eq_true rfl) dX5_isWord_19 rfl rfl ?_
    obtain ⟨x10, e12, h⟩ := gLet_s h
    refine J_top (fun y11 e13 => ?_)
    have e13x : x10 = y11 := (e13.trans e12.symm).symm
    subst e13x
    refine J_icmp_ge (tgt := 49) (pc1 := 25) dX5_isWord_22 (by decide) (fun q14 => ?_) rfl (fun q14 => ?_)
    · rw [if_pos q14] at h
      refine J_sub [] (lv1 := []) rfl ?_
      exact kj6 ()  h
    · rw [if_neg q14] at h
      refine J_aload_n (i := 1) (q := 1) (pc1 := 26) dX5_isWord_25 rfl rfl rfl ?_
      refine J_iload_n (i := 3) (q := 3) (pc1 := 27) dX5_isWord_26 rfl rfl rfl ?_
      obtain ⟨h15, h⟩ := gChk_s h
      obtain ⟨h16, h⟩ := gChk_s h
      obtain ⟨h17, h⟩ := gChk_s h
      refine J_callK (As := [.int x8]) (pc1 := 30) (st := []) (st1 := [.int (i2c ((jsB w1).getD x8.toNatClampNeg 0 &&& 255))]) hw1 (kJ0_charAt l D (gE_C nc) gkd_C tc sa ad (grh_C nc) hI μ hw1 h15 h16 h17) wcJ0_charAt_5068e wlX5_75 rfl rfl ⟨rfl, rfl, Nat.le_of_ble_eq_true rfl, Nat.le_of_ble_eq_true rfl⟩ ⟨Nat.zero_le _, Nat.zero_le _⟩ (Nat.le_of_ble_eq_true rfl) dX5_isWord_27 rfl rfl ?_
      obtain ⟨x18, e20, h⟩ := gLet_s h
      refine J_top (fun y19 e21 => ?_)
      have e21x : x18 = y19 := (e21.trans e20.symm).symm
      subst e21x
      refine J_aload_n (i := 0) (q := 0) (pc1 := 31) dX5_isWord_30 rfl rfl rfl ?_
      refine J_getR (T := TX5) (f' := 2) (i' := 0) (pc1 := 34) eC1 rfl rfl inX5 0 (by decide) rfl rfl flX5_9 rfl dX5_isWord_31 rfl ?_
      refine J_iload_n (i := 2) (q := 2) (pc1 := 35) dX5_isWord_34 rfl rfl rfl ?_
      refine J_iload_n (i := 3) (q := 3) (pc1 := 36) dX5_isWord_35 rfl rfl rfl ?_
      refine J_iadd (pc1 := 37) dX5_isWord_36 rfl ?_
      obtain ⟨h22, h⟩ := gChk_s h
      refine J_cald (ix := ((a2 + x8).toNatClampNeg)) (pc1 := 38) rfl eC2 rfl h22 dX5_isWord_37 rfl ?_
      refine J_icmp_eq (tgt := 43) (pc1 := 41) dX5_isWord_38 (by decide) (fun q23 => ?_) rfl (fun q23 => ?_)
      · rw [if_pos q23] at h
        refine J_iinc (i := 3) (q := 3) (v := x8 + 1) (lv1 := [(3, .int (x8 + 1)), (0, .ref (ad 1 0)), (1, .ref (sa (3 * w1))), (2, .int a2)]) (pc1 := 46) dX5_isWord_43 rfl rfl (by decide) rfl rfl ?_
        refine J_goto (tgt := 17) dX5_isWord_46 (by decide) ?_
        refine J_sub [1, 2, 3, 0] (lv1 := [(0, .ref (ad 1 0)), (1, .ref (sa (3 * w1))), (2, .int a2), (3, .int (x8 + 1))]) rfl ?_
        exact ihrec9 _ h
      · rw [if_neg q23] at h
        refine J_iconst (v := 0) (pc1 := 42) dX5_isWord_41 (by decide) rfl ?_
        cases h
        exact J_zret (by decide) hr hlk dX5_isWord_42
  · rw [if_neg q5] at h
    refine J_iconst (v := 0) (pc1 := 14) dX5_isWord_13 (by decide) rfl ?_
    cases h
    exact J_zret (by decide) hr hlk dX5_isWord_14
def mX5_wordFrom (nc : Nat) (a1 : Int32) (μ : gM) : Option Int32 :=
  gBp (mX5_isWord nc 24 a1 μ) fun r2 =>
  if r2 = 0 then
    gBp (mX5_isWord nc 25 a1 μ) fun r5 =>
    if r5 = 0 then
      gBp (mX5_isWord nc 26 a1 μ) fun r8 =>
      if r8 = 0 then
        gBp (mX5_isWord nc 27 a1 μ) fun r11 =>
        if r11 = 0 then
          gBp (mX5_isWord nc 28 a1 μ) fun r14 =>
          if r14 = 0 then
            gBp (mX5_isWord nc 29 a1 μ) fun r17 =>
            if r17 = 0 then
              gBp (mX5_isWord nc 30 a1 μ) fun r20 =>
              gLet (α := Int32) (if r20 = 0 then (-1) else 6) fun x21 =>
              some x21
            else
              some 5
          else
            some 4
        else
          some 3
      else
        some 2
    else
      some 1
  else
    some 0
set_option maxHeartbeats 4000000 in
set_option maxRecDepth 100000 in
theorem kX5_wordFrom (l : Launch) (D : va_G) (tc : Nat → ClassId) (sa : Nat → Nat) (ad : Nat → Nat → Nat) (nc : Nat) (hnc : 0 < nc ∧ nc ≤ 2) (hI : gI (gE_C nc) ad) (a1 : Int32) (μ : gM) (r : Int32) (h : mX5_wordFrom nc a1 μ = some r) : gMet l yX5_wordFrom cX5_wordFrom 2 (some .int) ({ frames := 5, cells := 0, slots := 0, locals := 113 } : Room) D (gE_C nc) gkd_C tc ad (grh_C nc) sa [.ref (ad 1 0), .int a1] μ (some (.int r)) μ := by
  refine gMet_of hI ⟨by decide +kernel, Nat.le_of_ble_eq_true rfl⟩ (fun p e s m args below meth c sz hr hlk => ?_)
  unfold mX5_wordFrom at h
  show JC p l e ({ frames := 5, cells := 0, slots := 0, locals := 113 } : Room) s m args below meth c cX5_wordFrom 2 RX5 D tc sa ad nc sz (some (.int r)) μ μ 0 [(0, .ref (ad 1 0)), (1, .int a1)] []
  refine J_aload_n (i := 0) (q := 0) (pc1 := 1) dX5_wordFrom_0 rfl rfl rfl ?_
  refine J_ldcS (i := 24) (tx := jsT 24) (pc1 := 3) ⟨by decide, rfl, rfl, rfl⟩ dX5_wordFrom_1 rfl ?_
  refine J_iload_n (i := 1) (q := 1) (pc1 := 4) dX5_wordFrom_3 rfl rfl rfl ?_
  obtain ⟨r2, hc1, h⟩ := gBp_s h
  refine J_callV (As := [.ref (sa (3 * 24)), .int a1]) (ad := ad) (f := 1) (i := 0) (st := []) (st1 := [.int r2]) (pc1 := 7) (kX5_isWord l D tc sa ad nc hnc hI 24 (⟨by decide, by decide⟩) a1 μ r2 hc1) wcX5_isWord wlX5_54 eC1 rfl rfl rfl ⟨rfl, rfl, Nat.le_of_ble_eq_true rfl, Nat.le_of_ble_eq_true rfl⟩ ⟨Nat.zero_le _, Nat.zero_le _⟩ (Nat.le_of_ble_eq_true rfl) dX5_wordFrom_4 rfl rfl ?_
  refine J_if_eq (tgt := 12) (pc1 := 10) dX5_wordFrom_7 (by decide) (fun q3 => ?_) rfl (fun q3 => ?_)
  · rw [if_pos q3] at h
    refine J_aload_n (i := 0) (q := 0) (pc1 := 13) dX5_wordFrom_12 rfl rfl rfl ?_
    refine J_ldcS (i := 25) (tx := jsT 25) (pc1 := 15) ⟨by decide, rfl, rfl, rfl⟩ dX5_wordFrom_13 rfl ?_
    refine J_iload_n (i := 1) (q := 1) (pc1 := 16) dX5_wordFrom_15 rfl rfl rfl ?_
    obtain ⟨r5, hc4, h⟩ := gBp_s h
    refine J_callV (As := [.ref (sa (3 * 25)), .int a1]) (ad := ad) (f := 1) (i := 0) (st := []) (st1 := [.int r5]) (pc1 := 19) (kX5_isWord l D tc sa ad nc hnc hI 25 (⟨by decide, by decide⟩) a1 μ r5 hc4) wcX5_isWord wlX5_54 eC1 rfl rfl rfl ⟨rfl, rfl, Nat.le_of_ble_eq_true rfl, Nat.le_of_ble_eq_true rfl⟩ ⟨Nat.zero_le _, Nat.zero_le _⟩ (Nat.le_of_ble_eq_true rfl) dX5_wordFrom_16 rfl rfl ?_
    refine J_if_eq (tgt := 24) (pc1 := 22) dX5_wordFrom_19 (by decide) (fun q6 => ?_) rfl (fun q6 => ?_)
    · rw [if_pos q6] at h
      refine J_aload_n (i := 0) (q := 0) (pc1 := 25) dX5_wordFrom_24 rfl rfl rfl ?_
      refine J_ldcS (i := 26) (tx := jsT 26) (pc1 := 27) ⟨by decide, rfl, rfl, rfl⟩ dX5_wordFrom_25 rfl ?_
      refine J_iload_n (i := 1) (q := 1) (pc1 := 28) dX5_wordFrom_27 rfl rfl rfl ?_
      obtain ⟨r8, hc7, h⟩ := gBp_s h
      refine J_callV (As := [.ref (sa (3 * 26)), .int a1]) (ad := ad) (f := 1) (i := 0) (st := []) (st1 := [.int r8]) (pc1 := 31) (kX5_isWord l D tc sa ad nc hnc hI 26 (⟨by decide, by decide⟩) a1 μ r8 hc7) wcX5_isWord wlX5_54 eC1 rfl rfl rfl ⟨rfl, rfl, Nat.le_of_ble_eq_true rfl, Nat.le_of_ble_eq_true rfl⟩ ⟨Nat.zero_le _, Nat.zero_le _⟩ (Nat.le_of_ble_eq_true rfl) dX5_wordFrom_28 rfl rfl ?_
      refine J_if_eq (tgt := 36) (pc1 := 34) dX5_wordFrom_31 (by decide) (fun q9 => ?_) rfl (fun q9 => ?_)
      · rw [if_pos q9] at h
        refine J_aload_n (i := 0) (q := 0) (pc1 := 37) dX5_wordFrom_36 rfl rfl rfl ?_
        refine J_ldcS (i := 27) (tx := jsT 27) (pc1 := 39) ⟨by decide, rfl, rfl, rfl⟩ dX5_wordFrom_37 rfl ?_
        refine J_iload_n (i := 1) (q := 1) (pc1 := 40) dX5_wordFrom_39 rfl rfl rfl ?_
        obtain ⟨r11, hc10, h⟩ := gBp_s h
        refine J_callV (As := [.ref (sa (3 * 27)), .int a1]) (ad := ad) (f := 1) (i := 0) (st := []) (st1 := [.int r11]) (pc1 := 43) (kX5_isWord l D tc sa ad nc hnc hI 27 (⟨by decide, by decide⟩) a1 μ r11 hc10) wcX5_isWord wlX5_54 eC1 rfl rfl rfl ⟨rfl, rfl, Nat.le_of_ble_eq_true rfl, Nat.le_of_ble_eq_true rfl⟩ ⟨Nat.zero_le _, Nat.zero_le _⟩ (Nat.le_of_ble_eq_true rfl) dX5_wordFrom_40 rfl rfl ?_
        refine J_if_eq (tgt := 48) (pc1 := 46) dX5_wordFrom_43 (by decide) (fun q12 => ?_) rfl (fun q12 => ?_)
        · rw [if_pos q12] at h
          refine J_aload_n (i := 0) (q := 0) (pc1 := 49) dX5_wordFrom_48 rfl rfl rfl ?_
          refine J_ldcS (i := 28) (tx := jsT 28) (pc1 := 51) ⟨by decide, rfl, rfl, rfl⟩ dX5_wordFrom_49 rfl ?_
          refine J_iload_n (i := 1) (q := 1) (pc1 := 52) dX5_wordFrom_51 rfl rfl rfl ?_
          obtain ⟨r14, hc13, h⟩ := gBp_s h
          refine J_callV (As := [.ref (sa (3 * 28)), .int a1]) (ad := ad) (f := 1) (i := 0) (st := []) (st1 := [.int r14]) (pc1 := 55) (kX5_isWord l D tc sa ad nc hnc hI 28 (⟨by decide, by decide⟩) a1 μ r14 hc13) wcX5_isWord wlX5_54 eC1 rfl rfl rfl ⟨rfl, rfl, Nat.le_of_ble_eq_true rfl, Nat.le_of_ble_eq_true rfl⟩ ⟨Nat.zero_le _, Nat.zero_le _⟩ (Nat.le_of_ble_eq_true rfl) dX5_wordFrom_52 rfl rfl ?_
          refine J_if_eq (tgt := 60) (pc1 := 58) dX5_wordFrom_55 (by decide) (fun q15 => ?_) rfl (fun q15 => ?_)
          · rw [if_pos q15] at h
            refine J_aload_n (i := 0) (q := 0) (pc1 := 61) dX5_wordFrom_60 rfl rfl rfl ?_
            refine J_ldcS (i := 29) (tx := jsT 29) (pc1 := 63) ⟨by decide, rfl, rfl, rfl⟩ dX5_wordFrom_61 rfl ?_
            refine J_iload_n (i := 1) (q := 1) (pc1 := 64) dX5_wordFrom_63 rfl rfl rfl ?_
            obtain ⟨r17, hc16, h⟩ := gBp_s h
            refine J_callV (As := [.ref (sa (3 * 29)), .int a1]) (ad := ad) (f := 1) (i := 0) (st := []) (st1 := [.int r17]) (pc1 := 67) (kX5_isWord l D tc sa ad nc hnc hI 29 (⟨by decide, by decide⟩) a1 μ r17 hc16) wcX5_isWord wlX5_54 eC1 rfl rfl rfl ⟨rfl, rfl, Nat.le_of_ble_eq_true rfl, Nat.le_of_ble_eq_true rfl⟩ ⟨Nat.zero_le _, Nat.zero_le _⟩ (Nat.le_of_ble_eq_true rfl) dX5_wordFrom_64 rfl rfl ?_
            refine J_if_eq (tgt := 72) (pc1 := 70) dX5_wordFrom_67 (by decide) (fun q18 => ?_) rfl (fun q18 => ?_)
            · rw [if_pos q18] at h
              refine J_aload_n (i := 0) (q := 0) (pc1 := 73) dX5_wordFrom_72 rfl rfl rfl ?_
              refine J_ldcS (i := 30) (tx := jsT 30) (pc1 := 75) ⟨by decide, rfl, rfl, rfl⟩ dX5_wordFrom_73 rfl ?_
              refine J_iload_n (i := 1) (q := 1) (pc1 := 76) dX5_wordFrom_75 rfl rfl rfl ?_
              obtain ⟨r20, hc19, h⟩ := gBp_s h
              refine J_callV (As := [.ref (sa (3 * 30)), .int a1]) (ad := ad) (f := 1) (i := 0) (st := []) (st1 := [.int r20]) (pc1 := 79) (kX5_isWord l D tc sa ad nc hnc hI 30 (⟨by decide, by decide⟩) a1 μ r20 hc19) wcX5_isWord wlX5_54 eC1 rfl rfl rfl ⟨rfl, rfl, Nat.le_of_ble_eq_true rfl, Nat.le_of_ble_eq_true rfl⟩ ⟨Nat.zero_le _, Nat.zero_le _⟩ (Nat.le_of_ble_eq_true rfl) dX5_wordFrom_76 rfl rfl ?_
              obtain ⟨x21, e22, h⟩ := gLet_s h
              have k23 : JC p l e ({ frames := 5, cells := 0, slots := 0, locals := 113 } : Room) s m args below meth c cX5_wordFrom 2 RX5 D tc sa ad nc sz (some (.int r)) μ μ 88 [(0, .ref (ad 1 0)), (1, .int a1)] [.int x21] := by
                cases h
                exact J_iret hr hlk dX5_wordFrom_88
              refine J_if_eq (tgt := 87) (pc1 := 82) dX5_wordFrom_79 (by decide) (fun q24 => ?_) rfl (fun q24 => ?_)
              · rw [if_pos q24] at e22
                subst e22
                refine J_iconst (v := (-1)) (pc1 := 88) dX5_wordFrom_87 (by decide) rfl ?_
                exact k23
              · rw [if_neg q24] at e22
                subst e22
                refine J_bipush (v := 6) (pc1 := 84) dX5_wordFrom_82 (by decide) rfl ?_
                refine J_goto (tgt := 88) dX5_wordFrom_84 (by decide) ?_
                exact k23
            · rw [if_neg q18] at h
              refine J_iconst (v := 5) (pc1 := 71) dX5_wordFrom_70 (by decide) rfl ?_
              cases h
              exact J_iret hr hlk dX5_wordFrom_71
          · rw [if_neg q15] at h
            refine J_iconst (v := 4) (pc1 := 59) dX5_wordFrom_58 (by decide) rfl ?_
            cases h
            exact J_iret hr hlk dX5_wordFrom_59
        · rw [if_neg q12] at h
          refine J_iconst (v := 3) (pc1 := 47) dX5_wordFrom_46 (by decide) rfl ?_
          cases h
          exact J_iret hr hlk dX5_wordFrom_47
      · rw [if_neg q9] at h
        refine J_iconst (v := 2) (pc1 := 35) dX5_wordFrom_34 (by decide) rfl ?_
        cases h
        exact J_iret hr hlk dX5_wordFrom_35
    · rw [if_neg q6] at h
      refine J_iconst (v := 1) (pc1 := 23) dX5_wordFrom_22 (by decide) rfl ?_
      cases h
      exact J_iret hr hlk dX5_wordFrom_23
  · rw [if_neg q3] at h
    refine J_iconst (v := 0) (pc1 := 11) dX5_wordFrom_10 (by decide) rfl ?_
    cases h
    exact J_iret hr hlk dX5_wordFrom_11
def mX5_parseCommand (nc : Nat) (a1 : Int32) (μ : gM) : Option (Int32 × gM) :=
  gLet (α := Int32) (μ 1 0 5) fun x1 =>
  gJon (fun (μ5 : gM) =>
      gBp (mX5_wordFrom nc x1 μ5) fun r8 =>
      if r8 = (-1) then
        gLet (α := gM) (w3 μ5 1 0 5 x1) fun μ61 =>
        some (0, μ61)
      else
        gChk (inb a1 16) <|
        gLet (α := gM) (w3 μ5 3 0 (a1.toNatClampNeg) r8) fun μ11 =>
        gBd (mX5_skip nc 32 μ11) fun r14 μ15 =>
        if r14 = 0 then
          some (0, μ15)
        else
          gBd (mX5_parseNumber nc 4 0 a1 μ15) fun r18 μ19 =>
          if r18 = 0 then
            some (0, μ19)
          else
            gJon (fun (x21 : Int32) =>
                gJon (fun (μ23 : gM) =>
                    gBd (mX5_skip nc 59 μ23) fun r26 μ27 =>
                    gChk (r26 = 0 ∨ r26 = 1) <|
                    some (r26, μ27)) fun j24 =>
                if x21 = 0 then
                  j24 μ19
                else
                  gBd (mX5_skip nc 44 μ19) fun r31 μ32 =>
                  if r31 = 0 then
                    some (0, μ32)
                  else
                    gBd (mX5_parseNumber nc 5 0 a1 μ32) fun r35 μ36 =>
                    if r35 = 0 then
                      some (0, μ36)
                    else
                      j24 μ36) fun j22 =>
            gJon (fun (u39 : Unit) =>
                j22 1) fun j38 =>
            if r8 = 3 then
              j38 () 
            else
              if r8 = 4 then
                j38 () 
              else
                gLet (α := Int32) (if r8 = 5 then 1 else 0) fun x42 =>
                gJon (fun (μ46 : gM) =>
                    gBd (mX5_skip nc 59 μ46) fun r49 μ50 =>
                    gChk (r49 = 0 ∨ r49 = 1) <|
                    some (r49, μ50)) fun j47 =>
                if x42 = 0 then
                  j47 μ19
                else
                  gBd (mX5_skip nc 44 μ19) fun r54 μ55 =>
                  if r54 = 0 then
                    some (0, μ55)
                  else
                    gBd (mX5_parseNumber nc 5 0 a1 μ55) fun r58 μ59 =>
                    if r58 = 0 then
                      some (0, μ59)
                    else
                      j47 μ59) fun j6 =>
  gFx1 (fun rec64 (μ63 : gM) =>
      if (μ63 1 0 4) ≤ (μ63 1 0 5) then
        j6 μ63
      else
        gBp (mX5_isBetween nc 97 122 μ63) fun r67 =>
        if r67 = 0 then
          j6 μ63
        else
          gLet (α := gM) (w3 μ63 1 0 5 ((μ63 1 0 5) + 1)) fun μ69 =>
          rec64 μ69) 1000000 μ
set_option maxHeartbeats 4000000 in
set_option maxRecDepth 100000 in
theorem kX5_parseCommand (l : Launch) (D : va_G) (tc : Nat → ClassId) (sa : Nat → Nat) (ad : Nat → Nat → Nat) (nc : Nat) (hnc : 0 < nc ∧ nc ≤ 2) (hI : gI (gE_C nc) ad) (a1 : Int32) (μ : gM) (r : Int32) (μ' : gM) (h : mX5_parseCommand nc a1 μ = some (r, μ')) : gMet l yX5_parseCommand cX5_parseCommand 5 (some .boolean) ({ frames := 6, cells := 0, slots := 0, locals := 134 } : Room) D (gE_C nc) gkd_C tc ad (grh_C nc) sa [.ref (ad 1 0), .int a1] μ (some (.int r)) μ' := by
  refine gMet_of hI ⟨by decide +kernel, Nat.le_of_ble_eq_true rfl⟩ (fun p e s m args below meth c sz hr hlk => ?_)
  unfold mX5_parseCommand at h
  show JC p l e ({ frames := 6, cells := 0, slots := 0, locals := 134 } : Room) s m args below meth c cX5_parseCommand 5 RX5 D tc sa ad nc sz (some (.int r)) μ' μ 0 [(0, .ref (ad 1 0)), (1, .int a1)] []
  refine J_aload_n (i := 0) (q := 0) (pc1 := 1) dX5_parseCommand_0 rfl rfl rfl ?_
  refine J_getI (T := TX5) (pc1 := 4) eC1 rfl rfl inX5 5 (by decide) rfl flX5_29 rfl dX5_parseCommand_1 rfl ?_
  obtain ⟨x1, e3, h⟩ := gLet_s h
  refine J_top (fun y2 e4 => ?_)
  have e4x : x1 = y2 := (e4.trans e3.symm).symm
  subst e4x
  refine J_istore_n (i := 2) (lv1 := [(2, .int x1), (0, .ref (ad 1 0)), (1, .int a1)]) (pc1 := 5) dX5_parseCommand_4 rfl (by decide) rfl rfl ?_
  obtain ⟨j6, ej6, h⟩ := gJon_s h
  have kj6 : ∀ (μ5 : gM), j6 μ5 = some (r, μ') → JC p l e ({ frames := 6, cells := 0, slots := 0, locals := 134 } : Room) s m args below meth c cX5_parseCommand 5 RX5 D tc sa ad nc sz (some (.int r)) μ' μ5 40 [(0, .ref (ad 1 0)), (1, .int a1), (2, .int x1)] [] := by
    intro μ5 h
    rw [ej6] at h
    try dsimp only at h
    refine J_aload_n (i := 0) (q := 0) (pc1 := 41) dX5_parseCommand_40 rfl rfl rfl ?_
    refine J_iload_n (i := 2) (q := 2) (pc1 := 42) dX5_parseCommand_41 rfl rfl rfl ?_
    obtain ⟨r8, hc7, h⟩ := gBp_s h
    refine J_callV (As := [.int x1]) (ad := ad) (f := 1) (i := 0) (st := []) (st1 := [.int r8]) (pc1 := 45) (kX5_wordFrom l D tc sa ad nc hnc hI x1 μ5 r8 hc7) wcX5_wordFrom wlX5_40 eC1 rfl rfl rfl ⟨rfl, rfl, Nat.le_of_ble_eq_true rfl, Nat.le_of_ble_eq_true rfl⟩ ⟨Nat.zero_le _, Nat.zero_le _⟩ (Nat.le_of_ble_eq_true rfl) dX5_parseCommand_42 rfl rfl ?_
    refine J_istore_n (i := 3) (lv1 := [(3, .int r8), (0, .ref (ad 1 0)), (1, .int a1), (2, .int x1)]) (pc1 := 46) dX5_parseCommand_45 rfl (by decide) rfl rfl ?_
    refine J_iload_n (i := 3) (q := 0) (pc1 := 47) dX5_parseCommand_46 rfl rfl rfl ?_
    refine J_iconst (v := (-1)) (pc1 := 48) dX5_parseCommand_47 (by decide) rfl ?_
    refine J_icmp_ne (tgt := 58) (pc1 := 51) dX5_parseCommand_48 (by decide) (fun q9 => ?_) rfl (fun q9 => ?_)
    · rw [if_neg q9] at h
      refine J_aload_n (i := 0) (q := 1) (pc1 := 59) dX5_parseCommand_58 rfl rfl rfl ?_
      refine J_getR (T := TX5) (f' := 3) (i' := 0) (pc1 := 62) eC1 rfl rfl inX5 1 (by decide) rfl rfl flX5_15 rfl dX5_parseCommand_59 rfl ?_
      refine J_iload_n (i := 1) (q := 2) (pc1 := 63) dX5_parseCommand_62 rfl rfl rfl ?_
      refine J_iload_n (i := 3) (q := 0) (pc1 := 64) dX5_parseCommand_63 rfl rfl rfl ?_
      obtain ⟨h10, h⟩ := gChk_s h
      refine J_iast (ix := (a1.toNatClampNeg)) (pc1 := 65) rfl eC3 rfl h10 dX5_parseCommand_64 rfl ?_
      obtain ⟨μ11, e12, h⟩ := gLet_s h
      rw [← e12]
      clear e12
      refine J_aload_n (i := 0) (q := 1) (pc1 := 66) dX5_parseCommand_65 rfl rfl rfl ?_
      refine J_bipush (v := 32) (pc1 := 68) dX5_parseCommand_66 (by decide) rfl ?_
      obtain ⟨r14, μ15, hc13, h⟩ := gBd_s h
      refine J_callV (As := [.int 32]) (ad := ad) (f := 1) (i := 0) (st := []) (st1 := [.int r14]) (pc1 := 71) (kX5_skip l D tc sa ad nc hnc hI 32 μ11 r14 μ15 hc13) wcX5_skip wlX5_44 eC1 rfl rfl rfl ⟨rfl, rfl, Nat.le_of_ble_eq_true rfl, Nat.le_of_ble_eq_true rfl⟩ ⟨Nat.zero_le _, Nat.zero_le _⟩ (Nat.le_of_ble_eq_true rfl) dX5_parseCommand_68 rfl rfl ?_
      refine J_if_eq (tgt := 86) (pc1 := 74) dX5_parseCommand_71 (by decide) (fun q16 => ?_) rfl (fun q16 => ?_)
      · rw [if_pos q16] at h
        refine J_iconst (v := 0) (pc1 := 87) dX5_parseCommand_86 (by decide) rfl ?_
        cases h
        exact J_zret (by decide) hr hlk dX5_parseCommand_87
      · rw [if_neg q16] at h
        refine J_aload_n (i := 0) (q := 1) (pc1 := 75) dX5_parseCommand_74 rfl rfl rfl ?_
        refine J_aload_n (i := 0) (q := 1) (pc1 := 76) dX5_parseCommand_75 rfl rfl rfl ?_
        refine J_getR (T := TX5) (f' := 4) (i' := 0) (pc1 := 79) eC1 rfl rfl inX5 2 (by decide) rfl rfl flX5_19 rfl dX5_parseCommand_76 rfl ?_
        refine J_iload_n (i := 1) (q := 2) (pc1 := 80) dX5_parseCommand_79 rfl rfl rfl ?_
        obtain ⟨r18, μ19, hc17, h⟩ := gBd_s h
        refine J_callV (As := [.ref (ad 4 0), .int a1]) (ad := ad) (f := 1) (i := 0) (st := []) (st1 := [.int r18]) (pc1 := 83) (kX5_parseNumber l D tc sa ad nc hnc hI 4 0 eC4 rfl a1 μ15 r18 μ19 hc17) wcX5_parseNumber wlX5_48 eC1 rfl rfl rfl ⟨rfl, rfl, Nat.le_of_ble_eq_true rfl, Nat.le_of_ble_eq_true rfl⟩ ⟨Nat.zero_le _, Nat.zero_le _⟩ (Nat.le_of_ble_eq_true rfl) dX5_parseCommand_80 rfl rfl ?_
        refine J_if_ne (tgt := 88) (pc1 := 86) dX5_parseCommand_83 (by decide) (fun q20 => ?_) rfl (fun q20 => ?_)
        · rw [if_neg q20] at h
          refine J_iload_n (i := 3) (q := 0) (pc1 := 89) dX5_parseCommand_88 rfl rfl rfl ?_
          refine J_iconst (v := 3) (pc1 := 90) dX5_parseCommand_89 (by decide) rfl ?_
          obtain ⟨j22, ej22, h⟩ := gJon_s h
          have kj22 : ∀ (x21 : Int32), j22 x21 = some (r, μ') → JC p l e ({ frames := 6, cells := 0, slots := 0, locals := 134 } : Room) s m args below meth c cX5_parseCommand 5 RX5 D tc sa ad nc sz (some (.int r)) μ' μ19 108 [(0, .ref (ad 1 0)), (1, .int a1)] [.int x21] := by
            intro x21 h
            rw [ej22] at h
            try dsimp only at h
            refine J_istore (i := 4) (lv1 := [(4, .int x21), (0, .ref (ad 1 0)), (1, .int a1)]) (pc1 := 110) dX5_parseCommand_108 (by decide) rfl rfl ?_
            refine J_iload (i := 4) (q := 0) (pc1 := 112) dX5_parseCommand_110 rfl rfl ?_
            obtain ⟨j24, ej24, h⟩ := gJon_s h
            have kj24 : ∀ (μ23 : gM), j24 μ23 = some (r, μ') → JC p l e ({ frames := 6, cells := 0, slots := 0, locals := 134 } : Room) s m args below meth c cX5_parseCommand 5 RX5 D tc sa ad nc sz (some (.int r)) μ' μ23 138 [(0, .ref (ad 1 0))] [] := by
              intro μ23 h
              rw [ej24] at h
              try dsimp only at h
              refine J_aload_n (i := 0) (q := 0) (pc1 := 139) dX5_parseCommand_138 rfl rfl rfl ?_
              refine J_bipush (v := 59) (pc1 := 141) dX5_parseCommand_139 (by decide) rfl ?_
              obtain ⟨r26, μ27, hc25, h⟩ := gBd_s h
              refine J_callV (As := [.int 59]) (ad := ad) (f := 1) (i := 0) (st := []) (st1 := [.int r26]) (pc1 := 144) (kX5_skip l D tc sa ad nc hnc hI 59 μ23 r26 μ27 hc25) wcX5_skip wlX5_44 eC1 rfl rfl rfl ⟨rfl, rfl, Nat.le_of_ble_eq_true rfl, Nat.le_of_ble_eq_true rfl⟩ ⟨Nat.zero_le _, Nat.zero_le _⟩ (Nat.le_of_ble_eq_true rfl) dX5_parseCommand_141 rfl rfl ?_
              obtain ⟨h28, h⟩ := gChk_s h
              cases h
              exact J_zret h28 hr hlk dX5_parseCommand_144
            clear ej24
            refine J_if_eq (tgt := 138) (pc1 := 115) dX5_parseCommand_112 (by decide) (fun q29 => ?_) rfl (fun q29 => ?_)
            · rw [if_pos q29] at h
              refine J_sub [1] (lv1 := [(0, .ref (ad 1 0))]) rfl ?_
              exact kj24 _ h
            · rw [if_neg q29] at h
              refine J_aload_n (i := 0) (q := 1) (pc1 := 116) dX5_parseCommand_115 rfl rfl rfl ?_
              refine J_bipush (v := 44) (pc1 := 118) dX5_parseCommand_116 (by decide) rfl ?_
              obtain ⟨r31, μ32, hc30, h⟩ := gBd_s h
              refine J_callV (As := [.int 44]) (ad := ad) (f := 1) (i := 0) (st := []) (st1 := [.int r31]) (pc1 := 121) (kX5_skip l D tc sa ad nc hnc hI 44 μ19 r31 μ32 hc30) wcX5_skip wlX5_44 eC1 rfl rfl rfl ⟨rfl, rfl, Nat.le_of_ble_eq_true rfl, Nat.le_of_ble_eq_true rfl⟩ ⟨Nat.zero_le _, Nat.zero_le _⟩ (Nat.le_of_ble_eq_true rfl) dX5_parseCommand_118 rfl rfl ?_
              refine J_if_eq (tgt := 136) (pc1 := 124) dX5_parseCommand_121 (by decide) (fun q33 => ?_) rfl (fun q33 => ?_)
              · rw [if_pos q33] at h
                refine J_iconst (v := 0) (pc1 := 137) dX5_parseCommand_136 (by decide) rfl ?_
                cases h
                exact J_zret (by decide) hr hlk dX5_parseCommand_137
              · rw [if_neg q33] at h
                refine J_aload_n (i := 0) (q := 1) (pc1 := 125) dX5_parseCommand_124 rfl rfl rfl ?_
                refine J_aload_n (i := 0) (q := 1) (pc1 := 126) dX5_parseCommand_125 rfl rfl rfl ?_
                refine J_getR (T := TX5) (f' := 5) (i' := 0) (pc1 := 129) eC1 rfl rfl inX5 3 (by decide) rfl rfl flX5_22 rfl dX5_parseCommand_126 rfl ?_
                refine J_iload_n (i := 1) (q := 2) (pc1 := 130) dX5_parseCommand_129 rfl rfl rfl ?_
                obtain ⟨r35, μ36, hc34, h⟩ := gBd_s h
                refine J_callV (As := [.ref (ad 5 0), .int a1]) (ad := ad) (f := 1) (i := 0) (st := []) (st1 := [.int r35]) (pc1 := 133) (kX5_parseNumber l D tc sa ad nc hnc hI 5 0 eC5 rfl a1 μ32 r35 μ36 hc34) wcX5_parseNumber wlX5_48 eC1 rfl rfl rfl ⟨rfl, rfl, Nat.le_of_ble_eq_true rfl, Nat.le_of_ble_eq_true rfl⟩ ⟨Nat.zero_le _, Nat.zero_le _⟩ (Nat.le_of_ble_eq_true rfl) dX5_parseCommand_130 rfl rfl ?_
                refine J_if_ne (tgt := 138) (pc1 := 136) dX5_parseCommand_133 (by decide) (fun q37 => ?_) rfl (fun q37 => ?_)
                · rw [if_neg q37] at h
                  refine J_sub [1] (lv1 := [(0, .ref (ad 1 0))]) rfl ?_
                  exact kj24 _ h
                · rw [if_pos q37] at h
                  refine J_iconst (v := 0) (pc1 := 137) dX5_parseCommand_136 (by decide) rfl ?_
                  cases h
                  exact J_zret (by decide) hr hlk dX5_parseCommand_137
          clear ej22
          obtain ⟨j38, ej38, h⟩ := gJon_s h
          have kj38 : ∀ (u39 : Unit), j38 u39 = some (r, μ') → JC p l e ({ frames := 6, cells := 0, slots := 0, locals := 134 } : Room) s m args below meth c cX5_parseCommand 5 RX5 D tc sa ad nc sz (some (.int r)) μ' μ19 103 [(0, .ref (ad 1 0)), (1, .int a1)] [] := by
            intro u39 h
            rw [ej38] at h
            try dsimp only at h
            refine J_iconst (v := 1) (pc1 := 104) dX5_parseCommand_103 (by decide) rfl ?_
            refine J_goto (tgt := 108) dX5_parseCommand_104 (by decide) ?_
            exact kj22 _ h
          clear ej38
          refine J_icmp_eq (tgt := 103) (pc1 := 93) dX5_parseCommand_90 (by decide) (fun q40 => ?_) rfl (fun q40 => ?_)
          · rw [if_pos q40] at h
            refine J_sub [1, 2] (lv1 := [(0, .ref (ad 1 0)), (1, .int a1)]) rfl ?_
            exact kj38 ()  h
          · rw [if_neg q40] at h
            refine J_iload_n (i := 3) (q := 0) (pc1 := 94) dX5_parseCommand_93 rfl rfl rfl ?_
            refine J_iconst (v := 4) (pc1 := 95) dX5_parseCommand_94 (by decide) rfl ?_
            refine J_icmp_eq (tgt := 103) (pc1 := 98) dX5_parseCommand_95 (by decide) (fun q41 => ?_) rfl (fun q41 => ?_)
            · rw [if_pos q41] at h
              refine J_sub [1, 2] (lv1 := [(0, .ref (ad 1 0)), (1, .int a1)]) rfl ?_
              exact kj38 ()  h
            · rw [if_neg q41] at h
              refine J_iload_n (i := 3) (q := 0) (pc1 := 99) dX5_parseCommand_98 rfl rfl rfl ?_
              refine J_iconst (v := 5) (pc1 := 100) dX5_parseCommand_99 (by decide) rfl ?_
              obtain ⟨x42, e43, h⟩ := gLet_s h
              have k44 : JC p l e ({ frames := 6, cells := 0, slots := 0, locals := 134 } : Room) s m args below meth c cX5_parseCommand 5 RX5 D tc sa ad nc sz (some (.int r)) μ' μ19 108 [(3, .int r8), (0, .ref (ad 1 0)), (1, .int a1), (2, .int x1)] [.int x42] := by
                refine J_istore (i := 4) (lv1 := [(4, .int x42), (3, .int r8), (0, .ref (ad 1 0)), (1, .int a1), (2, .int x1)]) (pc1 := 110) dX5_parseCommand_108 (by decide) rfl rfl ?_
                refine J_iload (i := 4) (q := 0) (pc1 := 112) dX5_parseCommand_110 rfl rfl ?_
                obtain ⟨j47, ej47, h⟩ := gJon_s h
                have kj47 : ∀ (μ46 : gM), j47 μ46 = some (r, μ') → JC p l e ({ frames := 6, cells := 0, slots := 0, locals := 134 } : Room) s m args below meth c cX5_parseCommand 5 RX5 D tc sa ad nc sz (some (.int r)) μ' μ46 138 [(0, .ref (ad 1 0))] [] := by
                  intro μ46 h
                  rw [ej47] at h
                  try dsimp only at h
                  refine J_aload_n (i := 0) (q := 0) (pc1 := 139) dX5_parseCommand_138 rfl rfl rfl ?_
                  refine J_bipush (v := 59) (pc1 := 141) dX5_parseCommand_139 (by decide) rfl ?_
                  obtain ⟨r49, μ50, hc48, h⟩ := gBd_s h
                  refine J_callV (As := [.int 59]) (ad := ad) (f := 1) (i := 0) (st := []) (st1 := [.int r49]) (pc1 := 144) (kX5_skip l D tc sa ad nc hnc hI 59 μ46 r49 μ50 hc48) wcX5_skip wlX5_44 eC1 rfl rfl rfl ⟨rfl, rfl, Nat.le_of_ble_eq_true rfl, Nat.le_of_ble_eq_true rfl⟩ ⟨Nat.zero_le _, Nat.zero_le _⟩ (Nat.le_of_ble_eq_true rfl) dX5_parseCommand_141 rfl rfl ?_
                  obtain ⟨h51, h⟩ := gChk_s h
                  cases h
                  exact J_zret h51 hr hlk dX5_parseCommand_144
                clear ej47
                refine J_if_eq (tgt := 138) (pc1 := 115) dX5_parseCommand_112 (by decide) (fun q52 => ?_) rfl (fun q52 => ?_)
                · rw [if_pos q52] at h
                  refine J_sub [2] (lv1 := [(0, .ref (ad 1 0))]) rfl ?_
                  exact kj47 _ h
                · rw [if_neg q52] at h
                  refine J_aload_n (i := 0) (q := 2) (pc1 := 116) dX5_parseCommand_115 rfl rfl rfl ?_
                  refine J_bipush (v := 44) (pc1 := 118) dX5_parseCommand_116 (by decide) rfl ?_
                  obtain ⟨r54, μ55, hc53, h⟩ := gBd_s h
                  refine J_callV (As := [.int 44]) (ad := ad) (f := 1) (i := 0) (st := []) (st1 := [.int r54]) (pc1 := 121) (kX5_skip l D tc sa ad nc hnc hI 44 μ19 r54 μ55 hc53) wcX5_skip wlX5_44 eC1 rfl rfl rfl ⟨rfl, rfl, Nat.le_of_ble_eq_true rfl, Nat.le_of_ble_eq_true rfl⟩ ⟨Nat.zero_le _, Nat.zero_le _⟩ (Nat.le_of_ble_eq_true rfl) dX5_parseCommand_118 rfl rfl ?_
                  refine J_if_eq (tgt := 136) (pc1 := 124) dX5_parseCommand_121 (by decide) (fun q56 => ?_) rfl (fun q56 => ?_)
                  · rw [if_pos q56] at h
                    refine J_iconst (v := 0) (pc1 := 137) dX5_parseCommand_136 (by decide) rfl ?_
                    cases h
                    exact J_zret (by decide) hr hlk dX5_parseCommand_137
                  · rw [if_neg q56] at h
                    refine J_aload_n (i := 0) (q := 2) (pc1 := 125) dX5_parseCommand_124 rfl rfl rfl ?_
                    refine J_aload_n (i := 0) (q := 2) (pc1 := 126) dX5_parseCommand_125 rfl rfl rfl ?_
                    refine J_getR (T := TX5) (f' := 5) (i' := 0) (pc1 := 129) eC1 rfl rfl inX5 3 (by decide) rfl rfl flX5_22 rfl dX5_parseCommand_126 rfl ?_
                    refine J_iload_n (i := 1) (q := 3) (pc1 := 130) dX5_parseCommand_129 rfl rfl rfl ?_
                    obtain ⟨r58, μ59, hc57, h⟩ := gBd_s h
                    refine J_callV (As := [.ref (ad 5 0), .int a1]) (ad := ad) (f := 1) (i := 0) (st := []) (st1 := [.int r58]) (pc1 := 133) (kX5_parseNumber l D tc sa ad nc hnc hI 5 0 eC5 rfl a1 μ55 r58 μ59 hc57) wcX5_parseNumber wlX5_48 eC1 rfl rfl rfl ⟨rfl, rfl, Nat.le_of_ble_eq_true rfl, Nat.le_of_ble_eq_true rfl⟩ ⟨Nat.zero_le _, Nat.zero_le _⟩ (Nat.le_of_ble_eq_true rfl) dX5_parseCommand_130 rfl rfl ?_
                    refine J_if_ne (tgt := 138) (pc1 := 136) dX5_parseCommand_133 (by decide) (fun q60 => ?_) rfl (fun q60 => ?_)
                    · rw [if_neg q60] at h
                      refine J_sub [2] (lv1 := [(0, .ref (ad 1 0))]) rfl ?_
                      exact kj47 _ h
                    · rw [if_pos q60] at h
                      refine J_iconst (v := 0) (pc1 := 137) dX5_parseCommand_136 (by decide) rfl ?_
                      cases h
                      exact J_zret (by decide) hr hlk dX5_parseCommand_137
              refine J_icmp_ne (tgt := 107) (pc1 := 103) dX5_parseCommand_100 (by decide) (fun q45 => ?_) rfl (fun q45 => ?_)
              · rw [if_neg q45] at e43
                subst e43
                refine J_iconst (v := 0) (pc1 := 108) dX5_parseCommand_107 (by decide) rfl ?_
                exact k44
              · rw [if_pos q45] at e43
                subst e43
                refine J_iconst (v := 1) (pc1 := 104) dX5_parseCommand_103 (by decide) rfl ?_
                refine J_goto (tgt := 108) dX5_parseCommand_104 (by decide) ?_
                exact k44
        · rw [if_pos q20] at h
          refine J_iconst (v := 0) (pc1 := 87) dX5_parseCommand_86 (by decide) rfl ?_
          cases h
          exact J_zret (by decide) hr hlk dX5_parseCommand_87
    · rw [if_pos q9] at h
      refine J_aload_n (i := 0) (q := 1) (pc1 := 52) dX5_parseCommand_51 rfl rfl rfl ?_
      refine J_iload_n (i := 2) (q := 3) (pc1 := 53) dX5_parseCommand_52 rfl rfl rfl ?_
      refine J_putI (T := TX5) (pc1 := 56) eC1 rfl rfl inX5 tyX5 tyX5_ok nmX5 5 (by decide) rfl (fun _ _ _ _ => gh1) flX5_29 rfl rfl rfl rfl dX5_parseCommand_53 rfl ?_
      obtain ⟨μ61, e62, h⟩ := gLet_s h
      rw [← e62]
      clear e62
      refine J_iconst (v := 0) (pc1 := 57) dX5_parseCommand_56 (by decide) rfl ?_
      cases h
      exact J_zret (by decide) hr hlk dX5_parseCommand_57
  clear ej6
  refine J_sub [1, 2, 0] (lv1 := [(0, .ref (ad 1 0)), (1, .int a1), (2, .int x1)]) rfl ?_
  refine gFx1_s (P := fun μ63 => JC p l e ({ frames := 6, cells := 0, slots := 0, locals := 134 } : Room) s m args below meth c cX5_parseCommand 5 RX5 D tc sa ad nc sz (some (.int r)) μ' μ63 5 [(0, .ref (ad 1 0)), (1, .int a1), (2, .int x1)] []) (fun rec64 ihrec64 μ63 h => ?_) _ _ h
  try dsimp only at h
  refine J_aload_n (i := 0) (q := 0) (pc1 := 6) dX5_parseCommand_5 rfl rfl rfl ?_
  refine J_getI (T := TX5) (pc1 := 9) eC1 rfl rfl inX5 5 (by decide) rfl flX5_29 rfl dX5_parseCommand_6 rfl ?_
  refine J_aload_n (i := 0) (q := 0) (pc1 := 10) dX5_parseCommand_9 rfl rfl rfl ?_
  refine J_getI (T := TX5) (pc1 := 13) eC1 rfl rfl inX5 4 (by decide) rfl flX5_25 rfl dX5_parseCommand_10 rfl ?_
  refine J_icmp_ge (tgt := 40) (pc1 := 16) dX5_parseCommand_13 (by decide) (fun q65 => ?_) rfl (fun q65 => ?_)
  · rw [if_pos q65] at h
    exact kj6 _ h
  · rw [if_neg q65] at h
    refine J_aload_n (i := 0) (q := 0) (pc1 := 17) dX5_parseCommand_16 rfl rfl rfl ?_
    refine J_bipush (v := 97) (pc1 := 19) dX5_parseCommand_17 (by decide) rfl ?_
    refine J_bipush (v := 122) (pc1 := 21) dX5_parseCommand_19 (by decide) rfl ?_
    obtain ⟨r67, hc66, h⟩ := gBp_s h
    refine J_callV (As := [.int 97, .int 122]) (ad := ad) (f := 1) (i := 0) (st := []) (st1 := [.int r67]) (pc1 := 24) (kX5_isBetween l D tc sa ad nc hnc hI 97 122 μ63 r67 hc66) wcX5_isBetween wlX5_36 eC1 rfl rfl rfl ⟨rfl, rfl, Nat.le_of_ble_eq_true rfl, Nat.le_of_ble_eq_true rfl⟩ ⟨Nat.zero_le _, Nat.zero_le _⟩ (Nat.le_of_ble_eq_true rfl) dX5_parseCommand_21 rfl rfl ?_
    refine J_if_eq (tgt := 40) (pc1 := 27) dX5_parseCommand_24 (by decide) (fun q68 => ?_) rfl (fun q68 => ?_)
    · rw [if_pos q68] at h
      exact kj6 _ h
    · rw [if_neg q68] at h
      refine J_aload_n (i := 0) (q := 0) (pc1 := 28) dX5_parseCommand_27 rfl rfl rfl ?_
      refine J_dup (pc1 := 29) dX5_parseCommand_28 rfl rfl ?_
      refine J_getI (T := TX5) (pc1 := 32) eC1 rfl rfl inX5 5 (by decide) rfl flX5_29 rfl dX5_parseCommand_29 rfl ?_
      refine J_iconst (v := 1) (pc1 := 33) dX5_parseCommand_32 (by decide) rfl ?_
      refine J_iadd (pc1 := 34) dX5_parseCommand_33 rfl ?_
      refine J_putI (T := TX5) (pc1 := 37) eC1 rfl rfl inX5 tyX5 tyX5_ok nmX5 5 (by decide) rfl (fun _ _ _ _ => gh1) flX5_29 rfl rfl rfl rfl dX5_parseCommand_34 rfl ?_
      obtain ⟨μ69, e70, h⟩ := gLet_s h
      rw [← e70]
      clear e70
      refine J_goto (tgt := 5) dX5_parseCommand_37 (by decide) ?_
      exact ihrec64 _ h
def mX5_parse (nc : Nat)  (μ : gM) : Option (Int32 × gM) :=
  gLet (α := gM) (w3 μ 1 0 5 0) fun μ1 =>
  gJon (fun (μ3 : gM) =>
      gLet (α := Int32) ((-100) - (μ3 1 0 5)) fun x5 =>
      some (x5, μ3)) fun j4 =>
  gFx2 (fun rec11 (x9 : Int32) (μ10 : gM) =>
      gBd (mX5_parseCommand nc x9 μ10) fun r13 μ14 =>
      if r13 = 0 then
        j4 μ14
      else
        if (μ14 1 0 4) ≤ (μ14 1 0 5) then
          some (x9 + 1, μ14)
        else
          if (x9 + 1) < 16 then
            rec11 (x9 + 1) μ14
          else
            some (x9 + 1, μ14)) 1000000 0 μ1
set_option maxHeartbeats 4000000 in
set_option maxRecDepth 100000 in
theorem kX5_parse (l : Launch) (D : va_G) (tc : Nat → ClassId) (sa : Nat → Nat) (ad : Nat → Nat → Nat) (nc : Nat) (hnc : 0 < nc ∧ nc ≤ 2) (hI : gI (gE_C nc) ad)  (μ : gM) (r : Int32) (μ' : gM) (h : mX5_parse nc  μ = some (r, μ')) : gMet l yX5_parse cX5_parse 2 (some .int) ({ frames := 7, cells := 0, slots := 0, locals := 158 } : Room) D (gE_C nc) gkd_C tc ad (grh_C nc) sa [.ref (ad 1 0)] μ (some (.int r)) μ' := by
  refine gMet_of hI ⟨by decide +kernel, Nat.le_of_ble_eq_true rfl⟩ (fun p e s m args below meth c sz hr hlk => ?_)
  unfold mX5_parse at h
  show JC p l e ({ frames := 7, cells := 0, slots := 0, locals := 158 } : Room) s m args below meth c cX5_parse 2 RX5 D tc sa ad nc sz (some (.int r)) μ' μ 0 [(0, .ref (ad 1 0))] []
  refine J_iconst (v := 0) (pc1 := 1) dX5_parse_0 (by decide) rfl ?_
  refine J_istore_n (i := 1) (lv1 := [(1, .int 0), (0, .ref (ad 1 0))]) (pc1 := 2) dX5_parse_1 rfl (by decide) rfl rfl ?_
  refine J_aload_n (i := 0) (q := 1) (pc1 := 3) dX5_parse_2 rfl rfl rfl ?_
  refine J_iconst (v := 0) (pc1 := 4) dX5_parse_3 (by decide) rfl ?_
  refine J_putI (T := TX5) (pc1 := 7) eC1 rfl rfl inX5 tyX5 tyX5_ok nmX5 5 (by decide) rfl (fun _ _ _ _ => gh1) flX5_29 rfl rfl rfl rfl dX5_parse_4 rfl ?_
  obtain ⟨μ1, e2, h⟩ := gLet_s h
  rw [← e2]
  clear e2
  obtain ⟨j4, ej4, h⟩ := gJon_s h
  have kj4 : ∀ (μ3 : gM), j4 μ3 = some (r, μ') → JC p l e ({ frames := 7, cells := 0, slots := 0, locals := 158 } : Room) s m args below meth c cX5_parse 2 RX5 D tc sa ad nc sz (some (.int r)) μ' μ3 15 [(0, .ref (ad 1 0))] [] := by
    intro μ3 h
    rw [ej4] at h
    try dsimp only at h
    refine J_bipush (v := (-100)) (pc1 := 17) dX5_parse_15 (by decide) rfl ?_
    refine J_aload_n (i := 0) (q := 0) (pc1 := 18) dX5_parse_17 rfl rfl rfl ?_
    refine J_getI (T := TX5) (pc1 := 21) eC1 rfl rfl inX5 5 (by decide) rfl flX5_29 rfl dX5_parse_18 rfl ?_
    refine J_isub (pc1 := 22) dX5_parse_21 rfl ?_
    obtain ⟨x5, e7, h⟩ := gLet_s h
    refine J_top (fun y6 e8 => ?_)
    have e8x : x5 = y6 := (e8.trans e7.symm).symm
    subst e8x
    cases h
    exact J_iret hr hlk dX5_parse_22
  clear ej4
  refine J_sub [1, 0] (lv1 := [(0, .ref (ad 1 0)), (1, .int 0)]) rfl ?_
  refine gFx2_s (P := fun x9 μ10 => JC p l e ({ frames := 7, cells := 0, slots := 0, locals := 158 } : Room) s m args below meth c cX5_parse 2 RX5 D tc sa ad nc sz (some (.int r)) μ' μ10 7 [(0, .ref (ad 1 0)), (1, .int x9)] []) (fun rec11 ihrec11 x9 μ10 h => ?_) _ _ _ h
  try dsimp only at h
  refine J_aload_n (i := 0) (q := 0) (pc1 := 8) dX5_parse_7 rfl rfl rfl ?_
  refine J_iload_n (i := 1) (q := 1) (pc1 := 9) dX5_parse_8 rfl rfl rfl ?_
  obtain ⟨r13, μ14, hc12, h⟩ := gBd_s h
  refine J_callV (As := [.int x9]) (ad := ad) (f := 1) (i := 0) (st := []) (st1 := [.int r13]) (pc1 := 12) (kX5_parseCommand l D tc sa ad nc hnc hI x9 μ10 r13 μ14 hc12) wcX5_parseCommand wlX5_32 eC1 rfl rfl rfl ⟨rfl, rfl, Nat.le_of_ble_eq_true rfl, Nat.le_of_ble_eq_true rfl⟩ ⟨Nat.zero_le _, Nat.zero_le _⟩ (Nat.le_of_ble_eq_true rfl) dX5_parse_9 rfl rfl ?_
  refine J_if_ne (tgt := 23) (pc1 := 15) dX5_parse_12 (by decide) (fun q15 => ?_) rfl (fun q15 => ?_)
  · rw [if_neg q15] at h
    refine J_iinc (i := 1) (q := 1) (v := x9 + 1) (lv1 := [(1, .int (x9 + 1)), (0, .ref (ad 1 0))]) (pc1 := 26) dX5_parse_23 rfl rfl (by decide) rfl rfl ?_
    refine J_aload_n (i := 0) (q := 1) (pc1 := 27) dX5_parse_26 rfl rfl rfl ?_
    refine J_getI (T := TX5) (pc1 := 30) eC1 rfl rfl inX5 5 (by decide) rfl flX5_29 rfl dX5_parse_27 rfl ?_
    refine J_aload_n (i := 0) (q := 1) (pc1 := 31) dX5_parse_30 rfl rfl rfl ?_
    refine J_getI (T := TX5) (pc1 := 34) eC1 rfl rfl inX5 4 (by decide) rfl flX5_25 rfl dX5_parse_31 rfl ?_
    refine J_icmp_ge (tgt := 43) (pc1 := 37) dX5_parse_34 (by decide) (fun q16 => ?_) rfl (fun q16 => ?_)
    · rw [if_pos q16] at h
      refine J_iload_n (i := 1) (q := 0) (pc1 := 44) dX5_parse_43 rfl rfl rfl ?_
      cases h
      exact J_iret hr hlk dX5_parse_44
    · rw [if_neg q16] at h
      refine J_iload_n (i := 1) (q := 0) (pc1 := 38) dX5_parse_37 rfl rfl rfl ?_
      refine J_bipush (v := 16) (pc1 := 40) dX5_parse_38 (by decide) rfl ?_
      refine J_icmp_lt (tgt := 7) (pc1 := 43) dX5_parse_40 (by decide) (fun q17 => ?_) rfl (fun q17 => ?_)
      · rw [if_pos q17] at h
        refine J_sub [1, 0] (lv1 := [(0, .ref (ad 1 0)), (1, .int (x9 + 1))]) rfl ?_
        exact ihrec11 _ _ h
      · rw [if_neg q17] at h
        refine J_iload_n (i := 1) (q := 0) (pc1 := 44) dX5_parse_43 rfl rfl rfl ?_
        cases h
        exact J_iret hr hlk dX5_parse_44
  · rw [if_pos q15] at h
    refine J_sub [0] (lv1 := [(0, .ref (ad 1 0))]) rfl ?_
    exact kj4 _ h
def mX6_perform (nc : Nat)  (μ : gM) : Option (Sum (String × gM) ((Int32 × gM))) :=
  gBd (mX5_parse nc μ) fun r2 μ3 =>
  gLet (α := gM) (w3 μ3 1 0 4 0) fun μ4 =>
  gJon (fun (μ6 : gM) =>
      some (.inr (r2, μ6))) fun j7 =>
  gJon (fun (μ8 : gM) =>
      some (.inl ("java/lang/UnsupportedOperationException", μ8))) fun j9 =>
  gFx2 (fun rec12 (x10 : Int32) (μ11 : gM) =>
      if r2 ≤ x10 then
        j7 μ11
      else
        if 16 ≤ x10 then
          j7 μ11
        else
          gChk (inb x10 16) <|
          gChk (inb x10 16) <|
          gChk (inb x10 16) <|
          gBp (mX6_isPossible nc (μ11 3 0 (x10.toNatClampNeg)) (μ11 4 0 (x10.toNatClampNeg)) (μ11 5 0 (x10.toNatClampNeg)) μ11) fun r19 =>
          if r19 = 0 then
            j9 μ11
          else
            gChk (inb x10 16) <|
            gChk (inb x10 16) <|
            gChk (inb x10 16) <|
            gBx (mX6_carryOut nc (μ11 3 0 (x10.toNatClampNeg)) (μ11 4 0 (x10.toNatClampNeg)) (μ11 5 0 (x10.toNatClampNeg)) μ11) fun μ25 =>
            rec12 (x10 + 1) μ25) 1000000 0 μ4
set_option maxHeartbeats 4000000 in
set_option maxRecDepth 100000 in
theorem kX6_perform (l : Launch) (D : va_G) (tc : Nat → ClassId) (sa : Nat → Nat) (ad : Nat → Nat → Nat) (nc : Nat) (hnc : 0 < nc ∧ nc ≤ 2) (hI : gI (gE_C nc) ad)  (μ : gM) (r : Int32) (μ' : gM) (h : mX6_perform nc  μ = some (.inr (r, μ'))) : gMet l yX6_perform cX6_perform 3 (some .int) ({ frames := 8, cells := 0, slots := 0, locals := 216 } : Room) D (gE_C nc) gkd_C tc ad (grh_C nc) sa [.ref (ad 0 0)] μ (some (.int r)) μ' := by
  refine gMet_of hI ⟨by decide +kernel, Nat.le_of_ble_eq_true rfl⟩ (fun p e s m args below meth c sz hr hlk => ?_)
  unfold mX6_perform at h
  show JC p l e ({ frames := 8, cells := 0, slots := 0, locals := 216 } : Room) s m args below meth c cX6_perform 3 RX6 D tc sa ad nc sz (some (.int r)) μ' μ 0 [(0, .ref (ad 0 0))] []
  refine J_aload_n (i := 0) (q := 0) (pc1 := 1) dX6_perform_0 rfl rfl rfl ?_
  refine J_getR (T := TX6) (f' := 1) (i' := 0) (pc1 := 4) eC0 rfl rfl inX6 2 (by decide) rfl rfl flX6_19 rfl dX6_perform_1 rfl ?_
  obtain ⟨r2, μ3, hc1, h⟩ := gBd_s h
  refine J_callV (As := []) (ad := ad) (f := 1) (i := 0) (st := []) (st1 := [.int r2]) (pc1 := 7) (kX5_parse l D tc sa ad nc hnc hI  μ r2 μ3 hc1) wcX5_parse wlX6_318 eC1 rfl rfl rfl ⟨rfl, rfl, Nat.le_of_ble_eq_true rfl, Nat.le_of_ble_eq_true rfl⟩ ⟨Nat.zero_le _, Nat.zero_le _⟩ (Nat.le_of_ble_eq_true rfl) dX6_perform_4 rfl rfl ?_
  refine J_istore_n (i := 1) (lv1 := [(1, .int r2), (0, .ref (ad 0 0))]) (pc1 := 8) dX6_perform_7 rfl (by decide) rfl rfl ?_
  refine J_aload_n (i := 0) (q := 1) (pc1 := 9) dX6_perform_8 rfl rfl rfl ?_
  refine J_getR (T := TX6) (f' := 1) (i' := 0) (pc1 := 12) eC0 rfl rfl inX6 2 (by decide) rfl rfl flX6_19 rfl dX6_perform_9 rfl ?_
  refine J_iconst (v := 0) (pc1 := 13) dX6_perform_12 (by decide) rfl ?_
  refine J_putI (T := TX5) (pc1 := 16) eC1 rfl rfl inX5 tyX5 tyX5_ok nmX5 4 (by decide) rfl (fun _ _ _ _ => gh1) flX6_315 rfl rfl rfl rfl dX6_perform_13 rfl ?_
  obtain ⟨μ4, e5, h⟩ := gLet_s h
  rw [← e5]
  clear e5
  refine J_iconst (v := 0) (pc1 := 17) dX6_perform_16 (by decide) rfl ?_
  refine J_istore_n (i := 2) (lv1 := [(2, .int 0), (1, .int r2), (0, .ref (ad 0 0))]) (pc1 := 18) dX6_perform_17 rfl (by decide) rfl rfl ?_
  obtain ⟨j7, ej7, h⟩ := gJon_s h
  have kj7 : ∀ (μ6 : gM), j7 μ6 = some (.inr (r, μ')) → JC p l e ({ frames := 8, cells := 0, slots := 0, locals := 216 } : Room) s m args below meth c cX6_perform 3 RX6 D tc sa ad nc sz (some (.int r)) μ' μ6 111 [(1, .int r2)] [] := by
    intro μ6 h
    rw [ej7] at h
    try dsimp only at h
    refine J_iload_n (i := 1) (q := 0) (pc1 := 112) dX6_perform_111 rfl rfl rfl ?_
    cases h
    exact J_iret hr hlk dX6_perform_112
  clear ej7
  obtain ⟨j9, ej9, h⟩ := gJon_s h
  have kj9 : ∀ (μ8 : gM), j9 μ8 = some (.inr (r, μ')) → JC p l e ({ frames := 8, cells := 0, slots := 0, locals := 216 } : Room) s m args below meth c cX6_perform 3 RX6 D tc sa ad nc sz (some (.int r)) μ' μ8 63 [] [] := by
    intro μ8 h
    rw [ej9] at h
    try dsimp only at h
    cases h
  clear ej9
  refine J_sub [2, 1, 0] (lv1 := [(0, .ref (ad 0 0)), (1, .int r2), (2, .int 0)]) rfl ?_
  refine gFx2_s (P := fun x10 μ11 => JC p l e ({ frames := 8, cells := 0, slots := 0, locals := 216 } : Room) s m args below meth c cX6_perform 3 RX6 D tc sa ad nc sz (some (.int r)) μ' μ11 18 [(0, .ref (ad 0 0)), (1, .int r2), (2, .int x10)] []) (fun rec12 ihrec12 x10 μ11 h => ?_) _ _ _ h
  try dsimp only at h
  refine J_iload_n (i := 2) (q := 2) (pc1 := 19) dX6_perform_18 rfl rfl rfl ?_
  refine J_iload_n (i := 1) (q := 1) (pc1 := 20) dX6_perform_19 rfl rfl rfl ?_
  refine J_icmp_ge (tgt := 111) (pc1 := 23) dX6_perform_20 (by decide) (fun q13 => ?_) rfl (fun q13 => ?_)
  · rw [if_pos q13] at h
    refine J_sub [1] (lv1 := [(1, .int r2)]) rfl ?_
    exact kj7 _ h
  · rw [if_neg q13] at h
    refine J_iload_n (i := 2) (q := 2) (pc1 := 24) dX6_perform_23 rfl rfl rfl ?_
    refine J_bipush (v := 16) (pc1 := 26) dX6_perform_24 (by decide) rfl ?_
    refine J_icmp_ge (tgt := 111) (pc1 := 29) dX6_perform_26 (by decide) (fun q14 => ?_) rfl (fun q14 => ?_)
    · rw [if_pos q14] at h
      refine J_sub [1] (lv1 := [(1, .int r2)]) rfl ?_
      exact kj7 _ h
    · rw [if_neg q14] at h
      refine J_aload_n (i := 0) (q := 0) (pc1 := 30) dX6_perform_29 rfl rfl rfl ?_
      refine J_aload_n (i := 0) (q := 0) (pc1 := 31) dX6_perform_30 rfl rfl rfl ?_
      refine J_getR (T := TX6) (f' := 1) (i' := 0) (pc1 := 34) eC0 rfl rfl inX6 2 (by decide) rfl rfl flX6_19 rfl dX6_perform_31 rfl ?_
      refine J_getR (T := TX5) (f' := 3) (i' := 0) (pc1 := 37) eC1 rfl rfl inX5 1 (by decide) rfl rfl flX6_321 rfl dX6_perform_34 rfl ?_
      refine J_iload_n (i := 2) (q := 2) (pc1 := 38) dX6_perform_37 rfl rfl rfl ?_
      obtain ⟨h15, h⟩ := gChk_s h
      refine J_iald (ix := (x10.toNatClampNeg)) (pc1 := 39) rfl eC3 rfl h15 dX6_perform_38 rfl ?_
      refine J_aload_n (i := 0) (q := 0) (pc1 := 40) dX6_perform_39 rfl rfl rfl ?_
      refine J_getR (T := TX6) (f' := 1) (i' := 0) (pc1 := 43) eC0 rfl rfl inX6 2 (by decide) rfl rfl flX6_19 rfl dX6_perform_40 rfl ?_
      refine J_getR (T := TX5) (f' := 4) (i' := 0) (pc1 := 46) eC1 rfl rfl inX5 2 (by decide) rfl rfl flX6_324 rfl dX6_perform_43 rfl ?_
      refine J_iload_n (i := 2) (q := 2) (pc1 := 47) dX6_perform_46 rfl rfl rfl ?_
      obtain ⟨h16, h⟩ := gChk_s h
      refine J_iald (ix := (x10.toNatClampNeg)) (pc1 := 48) rfl eC4 rfl h16 dX6_perform_47 rfl ?_
      refine J_aload_n (i := 0) (q := 0) (pc1 := 49) dX6_perform_48 rfl rfl rfl ?_
      refine J_getR (T := TX6) (f' := 1) (i' := 0) (pc1 := 52) eC0 rfl rfl inX6 2 (by decide) rfl rfl flX6_19 rfl dX6_perform_49 rfl ?_
      refine J_getR (T := TX5) (f' := 5) (i' := 0) (pc1 := 55) eC1 rfl rfl inX5 3 (by decide) rfl rfl flX6_327 rfl dX6_perform_52 rfl ?_
      refine J_iload_n (i := 2) (q := 2) (pc1 := 56) dX6_perform_55 rfl rfl rfl ?_
      obtain ⟨h17, h⟩ := gChk_s h
      refine J_iald (ix := (x10.toNatClampNeg)) (pc1 := 57) rfl eC5 rfl h17 dX6_perform_56 rfl ?_
      obtain ⟨r19, hc18, h⟩ := gBp_s h
      refine J_callV (As := [.int (μ11 3 0 (x10.toNatClampNeg)), .int (μ11 4 0 (x10.toNatClampNeg)), .int (μ11 5 0 (x10.toNatClampNeg))]) (ad := ad) (f := 0) (i := 0) (st := []) (st1 := [.int r19]) (pc1 := 60) (kX6_isPossible l D tc sa ad nc hnc hI (μ11 3 0 (x10.toNatClampNeg)) (μ11 4 0 (x10.toNatClampNeg)) (μ11 5 0 (x10.toNatClampNeg)) μ11 r19 hc18) wcX6_isPossible wlX6_330 eC0 rfl rfl rfl ⟨rfl, rfl, Nat.le_of_ble_eq_true rfl, Nat.le_of_ble_eq_true rfl⟩ ⟨Nat.zero_le _, Nat.zero_le _⟩ (Nat.le_of_ble_eq_true rfl) dX6_perform_57 rfl rfl ?_
      refine J_if_ne (tgt := 74) (pc1 := 63) dX6_perform_60 (by decide) (fun q20 => ?_) rfl (fun q20 => ?_)
      · rw [if_neg q20] at h
        refine J_aload_n (i := 0) (q := 0) (pc1 := 75) dX6_perform_74 rfl rfl rfl ?_
        refine J_aload_n (i := 0) (q := 0) (pc1 := 76) dX6_perform_75 rfl rfl rfl ?_
        refine J_getR (T := TX6) (f' := 1) (i' := 0) (pc1 := 79) eC0 rfl rfl inX6 2 (by decide) rfl rfl flX6_19 rfl dX6_perform_76 rfl ?_
        refine J_getR (T := TX5) (f' := 3) (i' := 0) (pc1 := 82) eC1 rfl rfl inX5 1 (by decide) rfl rfl flX6_321 rfl dX6_perform_79 rfl ?_
        refine J_iload_n (i := 2) (q := 2) (pc1 := 83) dX6_perform_82 rfl rfl rfl ?_
        obtain ⟨h21, h⟩ := gChk_s h
        refine J_iald (ix := (x10.toNatClampNeg)) (pc1 := 84) rfl eC3 rfl h21 dX6_perform_83 rfl ?_
        refine J_aload_n (i := 0) (q := 0) (pc1 := 85) dX6_perform_84 rfl rfl rfl ?_
        refine J_getR (T := TX6) (f' := 1) (i' := 0) (pc1 := 88) eC0 rfl rfl inX6 2 (by decide) rfl rfl flX6_19 rfl dX6_perform_85 rfl ?_
        refine J_getR (T := TX5) (f' := 4) (i' := 0) (pc1 := 91) eC1 rfl rfl inX5 2 (by decide) rfl rfl flX6_324 rfl dX6_perform_88 rfl ?_
        refine J_iload_n (i := 2) (q := 2) (pc1 := 92) dX6_perform_91 rfl rfl rfl ?_
        obtain ⟨h22, h⟩ := gChk_s h
        refine J_iald (ix := (x10.toNatClampNeg)) (pc1 := 93) rfl eC4 rfl h22 dX6_perform_92 rfl ?_
        refine J_aload_n (i := 0) (q := 0) (pc1 := 94) dX6_perform_93 rfl rfl rfl ?_
        refine J_getR (T := TX6) (f' := 1) (i' := 0) (pc1 := 97) eC0 rfl rfl inX6 2 (by decide) rfl rfl flX6_19 rfl dX6_perform_94 rfl ?_
        refine J_getR (T := TX5) (f' := 5) (i' := 0) (pc1 := 100) eC1 rfl rfl inX5 3 (by decide) rfl rfl flX6_327 rfl dX6_perform_97 rfl ?_
        refine J_iload_n (i := 2) (q := 2) (pc1 := 101) dX6_perform_100 rfl rfl rfl ?_
        obtain ⟨h23, h⟩ := gChk_s h
        refine J_iald (ix := (x10.toNatClampNeg)) (pc1 := 102) rfl eC5 rfl h23 dX6_perform_101 rfl ?_
        obtain ⟨μ25, hc24, h⟩ := gBx_r h
        refine J_callV (As := [.int (μ11 3 0 (x10.toNatClampNeg)), .int (μ11 4 0 (x10.toNatClampNeg)), .int (μ11 5 0 (x10.toNatClampNeg))]) (ad := ad) (f := 0) (i := 0) (st := []) (st1 := []) (pc1 := 105) (kX6_carryOut l D tc sa ad nc hnc hI (μ11 3 0 (x10.toNatClampNeg)) (μ11 4 0 (x10.toNatClampNeg)) (μ11 5 0 (x10.toNatClampNeg)) μ11 μ25 hc24) wcX6_carryOut wlX6_336 eC0 rfl rfl rfl ⟨rfl, rfl, Nat.le_of_ble_eq_true rfl, Nat.le_of_ble_eq_true rfl⟩ ⟨Nat.zero_le _, Nat.zero_le _⟩ (Nat.le_of_ble_eq_true rfl) dX6_perform_102 rfl rfl ?_
        refine J_iinc (i := 2) (q := 2) (v := x10 + 1) (lv1 := [(2, .int (x10 + 1)), (0, .ref (ad 0 0)), (1, .int r2)]) (pc1 := 108) dX6_perform_105 rfl rfl (by decide) rfl rfl ?_
        refine J_goto (tgt := 18) dX6_perform_108 (by decide) ?_
        refine J_sub [1, 2, 0] (lv1 := [(0, .ref (ad 0 0)), (1, .int r2), (2, .int (x10 + 1))]) rfl ?_
        exact ihrec12 _ _ h
      · rw [if_pos q20] at h
        refine J_sub [] (lv1 := []) rfl ?_
        exact kj9 _ h
set_option maxHeartbeats 4000000 in
set_option maxRecDepth 100000 in
theorem tX6_perform (l : Launch) (D : va_G) (tc : Nat → ClassId) (sa : Nat → Nat) (ad : Nat → Nat → Nat) (nc : Nat) (hnc : 0 < nc ∧ nc ≤ 2) (hI : gI (gE_C nc) ad)  (μ : gM) (hlz : l.stackTraces = false) (E0 : String) (μ' : gM) (h : mX6_perform nc  μ = some (.inl (E0, μ'))) : gMetX l yX6_perform cX6_perform 3 (some .int) ({ frames := 8, cells := 1, slots := 6, locals := 216 } : Room) D (gE_C nc) gkd_C tc ad (grh_C nc) sa [.ref (ad 0 0)] μ E0 μ' := by
  refine gMetX_of hI ⟨by decide +kernel, Nat.le_of_ble_eq_true rfl⟩ (fun p e s m args below meth c sz hr hlk hT => ?_)
  unfold mX6_perform at h
  show JCX p l e ({ frames := 8, cells := 1, slots := 6, locals := 216 } : Room) s m args below meth c cX6_perform 3 RX6 D tc sa ad nc sz E0 μ' μ 0 [(0, .ref (ad 0 0))] []
  refine J_aload_n (i := 0) (q := 0) (pc1 := 1) dX6_perform_0 rfl rfl rfl ?_
  refine J_getR (T := TX6) (f' := 1) (i' := 0) (pc1 := 4) eC0 rfl rfl inX6 2 (by decide) rfl rfl flX6_19 rfl dX6_perform_1 rfl ?_
  obtain ⟨r2, μ3, hc1, h⟩ := gBd_s h
  refine J_callV (As := []) (ad := ad) (f := 1) (i := 0) (st := []) (st1 := [.int r2]) (pc1 := 7) (kX5_parse l D tc sa ad nc hnc hI  μ r2 μ3 hc1) wcX5_parse wlX6_318 eC1 rfl rfl rfl ⟨rfl, rfl, Nat.le_of_ble_eq_true rfl, Nat.le_of_ble_eq_true rfl⟩ ⟨Nat.zero_le _, Nat.zero_le _⟩ (Nat.le_of_ble_eq_true rfl) dX6_perform_4 rfl rfl ?_
  refine J_istore_n (i := 1) (lv1 := [(1, .int r2), (0, .ref (ad 0 0))]) (pc1 := 8) dX6_perform_7 rfl (by decide) rfl rfl ?_
  refine J_aload_n (i := 0) (q := 1) (pc1 := 9) dX6_perform_8 rfl rfl rfl ?_
  refine J_getR (T := TX6) (f' := 1) (i' := 0) (pc1 := 12) eC0 rfl rfl inX6 2 (by decide) rfl rfl flX6_19 rfl dX6_perform_9 rfl ?_
  refine J_iconst (v := 0) (pc1 := 13) dX6_perform_12 (by decide) rfl ?_
  refine J_putI (T := TX5) (pc1 := 16) eC1 rfl rfl inX5 tyX5 tyX5_ok nmX5 4 (by decide) rfl (fun _ _ _ _ => gh1) flX6_315 rfl rfl rfl rfl dX6_perform_13 rfl ?_
  obtain ⟨μ4, e5, h⟩ := gLet_s h
  rw [← e5]
  clear e5
  refine J_iconst (v := 0) (pc1 := 17) dX6_perform_16 (by decide) rfl ?_
  refine J_istore_n (i := 2) (lv1 := [(2, .int 0), (1, .int r2), (0, .ref (ad 0 0))]) (pc1 := 18) dX6_perform_17 rfl (by decide) rfl rfl ?_
  obtain ⟨j7, ej7, h⟩ := gJon_s h
  have kj7 : ∀ (μ6 : gM), j7 μ6 = some (.inl (E0, μ')) → JCX p l e ({ frames := 8, cells := 1, slots := 6, locals := 216 } : Room) s m args below meth c cX6_perform 3 RX6 D tc sa ad nc sz E0 μ' μ6 111 [(1, .int r2)] [] := by
    intro μ6 h
    rw [ej7] at h
    try dsimp only at h
    refine J_iload_n (i := 1) (q := 0) (pc1 := 112) dX6_perform_111 rfl rfl rfl ?_
    cases h
  clear ej7
  obtain ⟨j9, ej9, h⟩ := gJon_s h
  have kj9 : ∀ (μ8 : gM), j9 μ8 = some (.inl (E0, μ')) → JCX p l e ({ frames := 8, cells := 1, slots := 6, locals := 216 } : Room) s m args below meth c cX6_perform 3 RX6 D tc sa ad nc sz E0 μ' μ8 63 [] [] := by
    intro μ8 h
    rw [ej9] at h
    try dsimp only at h
    cases h
    exact J_throwSW (i := 21) (text := jsT 21) hlz hT xf_UnsupportedOperationException clX6_139 ini_UnsupportedOperationException ⟨by decide, rfl, rfl, rfl⟩ (xh_UnsupportedOperationException clX6_139) hlk dX6_perform_63 dX6_perform_66 dX6_perform_67 dX6_perform_70 dX6_perform_73 ⟨by decide, by decide, by decide, by decide⟩
  clear ej9
  refine J_sub [2, 1, 0] (lv1 := [(0, .ref (ad 0 0)), (1, .int r2), (2, .int 0)]) rfl ?_
  refine gFx2_s (P := fun x10 μ11 => JCX p l e ({ frames := 8, cells := 1, slots := 6, locals := 216 } : Room) s m args below meth c cX6_perform 3 RX6 D tc sa ad nc sz E0 μ' μ11 18 [(0, .ref (ad 0 0)), (1, .int r2), (2, .int x10)] []) (fun rec12 ihrec12 x10 μ11 h => ?_) _ _ _ h
  try dsimp only at h
  refine J_iload_n (i := 2) (q := 2) (pc1 := 19) dX6_perform_18 rfl rfl rfl ?_
  refine J_iload_n (i := 1) (q := 1) (pc1 := 20) dX6_perform_19 rfl rfl rfl ?_
  refine J_icmp_ge (tgt := 111) (pc1 := 23) dX6_perform_20 (by decide) (fun q13 => ?_) rfl (fun q13 => ?_)
  · rw [if_pos q13] at h
    refine J_sub [1] (lv1 := [(1, .int r2)]) rfl ?_
    exact kj7 _ h
  · rw [if_neg q13] at h
    refine J_iload_n (i := 2) (q := 2) (pc1 := 24) dX6_perform_23 rfl rfl rfl ?_
    refine J_bipush (v := 16) (pc1 := 26) dX6_perform_24 (by decide) rfl ?_
    refine J_icmp_ge (tgt := 111) (pc1 := 29) dX6_perform_26 (by decide) (fun q14 => ?_) rfl (fun q14 => ?_)
    · rw [if_pos q14] at h
      refine J_sub [1] (lv1 := [(1, .int r2)]) rfl ?_
      exact kj7 _ h
    · rw [if_neg q14] at h
      refine J_aload_n (i := 0) (q := 0) (pc1 := 30) dX6_perform_29 rfl rfl rfl ?_
      refine J_aload_n (i := 0) (q := 0) (pc1 := 31) dX6_perform_30 rfl rfl rfl ?_
      refine J_getR (T := TX6) (f' := 1) (i' := 0) (pc1 := 34) eC0 rfl rfl inX6 2 (by decide) rfl rfl flX6_19 rfl dX6_perform_31 rfl ?_
      refine J_getR (T := TX5) (f' := 3) (i' := 0) (pc1 := 37) eC1 rfl rfl inX5 1 (by decide) rfl rfl flX6_321 rfl dX6_perform_34 rfl ?_
      refine J_iload_n (i := 2) (q := 2) (pc1 := 38) dX6_perform_37 rfl rfl rfl ?_
      obtain ⟨h15, h⟩ := gChk_s h
      refine J_iald (ix := (x10.toNatClampNeg)) (pc1 := 39) rfl eC3 rfl h15 dX6_perform_38 rfl ?_
      refine J_aload_n (i := 0) (q := 0) (pc1 := 40) dX6_perform_39 rfl rfl rfl ?_
      refine J_getR (T := TX6) (f' := 1) (i' := 0) (pc1 := 43) eC0 rfl rfl inX6 2 (by decide) rfl rfl flX6_19 rfl dX6_perform_40 rfl ?_
      refine J_getR (T := TX5) (f' := 4) (i' := 0) (pc1 := 46) eC1 rfl rfl inX5 2 (by decide) rfl rfl flX6_324 rfl dX6_perform_43 rfl ?_
      refine J_iload_n (i := 2) (q := 2) (pc1 := 47) dX6_perform_46 rfl rfl rfl ?_
      obtain ⟨h16, h⟩ := gChk_s h
      refine J_iald (ix := (x10.toNatClampNeg)) (pc1 := 48) rfl eC4 rfl h16 dX6_perform_47 rfl ?_
      refine J_aload_n (i := 0) (q := 0) (pc1 := 49) dX6_perform_48 rfl rfl rfl ?_
      refine J_getR (T := TX6) (f' := 1) (i' := 0) (pc1 := 52) eC0 rfl rfl inX6 2 (by decide) rfl rfl flX6_19 rfl dX6_perform_49 rfl ?_
      refine J_getR (T := TX5) (f' := 5) (i' := 0) (pc1 := 55) eC1 rfl rfl inX5 3 (by decide) rfl rfl flX6_327 rfl dX6_perform_52 rfl ?_
      refine J_iload_n (i := 2) (q := 2) (pc1 := 56) dX6_perform_55 rfl rfl rfl ?_
      obtain ⟨h17, h⟩ := gChk_s h
      refine J_iald (ix := (x10.toNatClampNeg)) (pc1 := 57) rfl eC5 rfl h17 dX6_perform_56 rfl ?_
      obtain ⟨r19, hc18, h⟩ := gBp_s h
      refine J_callV (As := [.int (μ11 3 0 (x10.toNatClampNeg)), .int (μ11 4 0 (x10.toNatClampNeg)), .int (μ11 5 0 (x10.toNatClampNeg))]) (ad := ad) (f := 0) (i := 0) (st := []) (st1 := [.int r19]) (pc1 := 60) (kX6_isPossible l D tc sa ad nc hnc hI (μ11 3 0 (x10.toNatClampNeg)) (μ11 4 0 (x10.toNatClampNeg)) (μ11 5 0 (x10.toNatClampNeg)) μ11 r19 hc18) wcX6_isPossible wlX6_330 eC0 rfl rfl rfl ⟨rfl, rfl, Nat.le_of_ble_eq_true rfl, Nat.le_of_ble_eq_true rfl⟩ ⟨Nat.zero_le _, Nat.zero_le _⟩ (Nat.le_of_ble_eq_true rfl) dX6_perform_57 rfl rfl ?_
      refine J_if_ne (tgt := 74) (pc1 := 63) dX6_perform_60 (by decide) (fun q20 => ?_) rfl (fun q20 => ?_)
      · rw [if_neg q20] at h
        refine J_aload_n (i := 0) (q := 0) (pc1 := 75) dX6_perform_74 rfl rfl rfl ?_
        refine J_aload_n (i := 0) (q := 0) (pc1 := 76) dX6_perform_75 rfl rfl rfl ?_
        refine J_getR (T := TX6) (f' := 1) (i' := 0) (pc1 := 79) eC0 rfl rfl inX6 2 (by decide) rfl rfl flX6_19 rfl dX6_perform_76 rfl ?_
        refine J_getR (T := TX5) (f' := 3) (i' := 0) (pc1 := 82) eC1 rfl rfl inX5 1 (by decide) rfl rfl flX6_321 rfl dX6_perform_79 rfl ?_
        refine J_iload_n (i := 2) (q := 2) (pc1 := 83) dX6_perform_82 rfl rfl rfl ?_
        obtain ⟨h21, h⟩ := gChk_s h
        refine J_iald (ix := (x10.toNatClampNeg)) (pc1 := 84) rfl eC3 rfl h21 dX6_perform_83 rfl ?_
        refine J_aload_n (i := 0) (q := 0) (pc1 := 85) dX6_perform_84 rfl rfl rfl ?_
        refine J_getR (T := TX6) (f' := 1) (i' := 0) (pc1 := 88) eC0 rfl rfl inX6 2 (by decide) rfl rfl flX6_19 rfl dX6_perform_85 rfl ?_
        refine J_getR (T := TX5) (f' := 4) (i' := 0) (pc1 := 91) eC1 rfl rfl inX5 2 (by decide) rfl rfl flX6_324 rfl dX6_perform_88 rfl ?_
        refine J_iload_n (i := 2) (q := 2) (pc1 := 92) dX6_perform_91 rfl rfl rfl ?_
        obtain ⟨h22, h⟩ := gChk_s h
        refine J_iald (ix := (x10.toNatClampNeg)) (pc1 := 93) rfl eC4 rfl h22 dX6_perform_92 rfl ?_
        refine J_aload_n (i := 0) (q := 0) (pc1 := 94) dX6_perform_93 rfl rfl rfl ?_
        refine J_getR (T := TX6) (f' := 1) (i' := 0) (pc1 := 97) eC0 rfl rfl inX6 2 (by decide) rfl rfl flX6_19 rfl dX6_perform_94 rfl ?_
        refine J_getR (T := TX5) (f' := 5) (i' := 0) (pc1 := 100) eC1 rfl rfl inX5 3 (by decide) rfl rfl flX6_327 rfl dX6_perform_97 rfl ?_
        refine J_iload_n (i := 2) (q := 2) (pc1 := 101) dX6_perform_100 rfl rfl rfl ?_
        obtain ⟨h23, h⟩ := gChk_s h
        refine J_iald (ix := (x10.toNatClampNeg)) (pc1 := 102) rfl eC5 rfl h23 dX6_perform_101 rfl ?_
        rcases gBx_l h with hc24 | ⟨μ25, hc24, h⟩
        · exact J_callX (As := [.int (μ11 3 0 (x10.toNatClampNeg)), .int (μ11 4 0 (x10.toNatClampNeg)), .int (μ11 5 0 (x10.toNatClampNeg))]) (ad := ad) (f := 0) (i := 0) (st := []) hT (tX6_carryOut l D tc sa ad nc hnc hI (μ11 3 0 (x10.toNatClampNeg)) (μ11 4 0 (x10.toNatClampNeg)) (μ11 5 0 (x10.toNatClampNeg)) μ11 hlz E0 μ' hc24) wcX6_carryOut wlX6_336 eC0 rfl rfl rfl ⟨rfl, rfl, Nat.le_of_ble_eq_true rfl, Nat.le_of_ble_eq_true rfl⟩ ⟨by decide, by decide⟩ (Nat.le_of_ble_eq_true rfl) hlk dX6_perform_102
        refine J_callV (As := [.int (μ11 3 0 (x10.toNatClampNeg)), .int (μ11 4 0 (x10.toNatClampNeg)), .int (μ11 5 0 (x10.toNatClampNeg))]) (ad := ad) (f := 0) (i := 0) (st := []) (st1 := []) (pc1 := 105) (kX6_carryOut l D tc sa ad nc hnc hI (μ11 3 0 (x10.toNatClampNeg)) (μ11 4 0 (x10.toNatClampNeg)) (μ11 5 0 (x10.toNatClampNeg)) μ11 μ25 hc24) wcX6_carryOut wlX6_336 eC0 rfl rfl rfl ⟨rfl, rfl, Nat.le_of_ble_eq_true rfl, Nat.le_of_ble_eq_true rfl⟩ ⟨Nat.zero_le _, Nat.zero_le _⟩ (Nat.le_of_ble_eq_true rfl) dX6_perform_102 rfl rfl ?_
        refine J_iinc (i := 2) (q := 2) (v := x10 + 1) (lv1 := [(2, .int (x10 + 1)), (0, .ref (ad 0 0)), (1, .int r2)]) (pc1 := 108) dX6_perform_105 rfl rfl (by decide) rfl rfl ?_
        refine J_goto (tgt := 18) dX6_perform_108 (by decide) ?_
        refine J_sub [1, 2, 0] (lv1 := [(0, .ref (ad 0 0)), (1, .int r2), (2, .int (x10 + 1))]) rfl ?_
        exact ihrec12 _ _ h
      · rw [if_pos q20] at h
        refine J_sub [] (lv1 := []) rfl ?_
        exact kj9 _ h
def mX6_share (nc : Nat) (a1 : Int32) (μ : gM) : Option (Sum (String × gM) (UInt64)) :=
  gBx (mX6_replicaAt nc a1 μ) fun r2 =>
  gChk (r2 < 5 * nc) <|
  gBp (mX1_members nc r2 μ) fun r5 =>
  gJon (fun (x6 : Int32) (x7 : Int32) =>
      if x7 = 0 then
        some (.inl ("java/lang/ArithmeticException", μ))
      else
        gChk (FP.ddiv (FP.i2d x6) (FP.i2d x7) &&& 0x7fffffffffffffff ≤ 0x7ff0000000000000) <|
        some (.inr (FP.ddiv (FP.i2d x6) (FP.i2d x7)))) fun j8 =>
  gFx3 (fun rec16 (x13 : Int32) (x14 : Int32) (x15 : Int32) =>
      if 5 ≤ x15 then
        j8 x13 x14
      else
        gChk (inb x15 5) <|
        if (μ 11 (5 * 0 + (x15.toNatClampNeg)) 5) = 0 then
          rec16 x13 x14 (x15 + 1)
        else
          if ((r5 >>> (x15 &&& 31)) &&& 1) = 1 then
            gLet (α := Int32) (x13 + (μ 11 (5 * 0 + (x15.toNatClampNeg)) 9)) fun x21 =>
            gBp (mX1_lastIndex nc (5 * 0 + (x15.toNatClampNeg)) μ) fun r26 =>
            gLet (α := Int32) (x14 + r26) fun x27 =>
            rec16 x21 x27 (x15 + 1)
          else
            rec16 x13 x14 (x15 + 1)) 1000000 0 0 0
set_option maxHeartbeats 4000000 in
set_option maxRecDepth 100000 in
theorem kX6_share (l : Launch) (D : va_G) (tc : Nat → ClassId) (sa : Nat → Nat) (ad : Nat → Nat → Nat) (nc : Nat) (hnc : 0 < nc ∧ nc ≤ 2) (hI : gI (gE_C nc) ad) (a1 : Int32) (μ : gM) (r : UInt64) (h : mX6_share nc a1 μ = some (.inr r)) : gMet l yX6_share cX6_share 7 (some .double) ({ frames := 1, cells := 0, slots := 0, locals := 21 } : Room) D (gE_C nc) gkd_C tc ad (grh_C nc) sa [.ref (ad 0 0), .int a1] μ (some (.double r)) μ := by
  refine gMet_of hI ⟨by decide +kernel, Nat.le_of_ble_eq_true rfl⟩ (fun p e s m args below meth c sz hr hlk => ?_)
  unfold mX6_share at h
  show JC p l e ({ frames := 1, cells := 0, slots := 0, locals := 21 } : Room) s m args below meth c cX6_share 7 RX6 D tc sa ad nc sz (some (.double r)) μ μ 0 [(0, .ref (ad 0 0)), (1, .int a1)] []
  refine J_aload_n (i := 0) (q := 0) (pc1 := 1) dX6_share_0 rfl rfl rfl ?_
  refine J_iload_n (i := 1) (q := 1) (pc1 := 2) dX6_share_1 rfl rfl rfl ?_
  obtain ⟨r2, hc1, h⟩ := gBx_r h
  obtain ⟨h3, h⟩ := gChk_s h
  refine J_callV (As := [.int a1]) (ad := ad) (f := 0) (i := 0) (st := []) (st1 := [.ref (ad 11 r2)]) (pc1 := 5) (kX6_replicaAt l D tc sa ad nc hnc hI a1 μ r2 hc1) wcX6_replicaAt wlX6_93 eC0 rfl rfl rfl ⟨rfl, rfl, Nat.le_of_ble_eq_true rfl, Nat.le_of_ble_eq_true rfl⟩ ⟨Nat.zero_le _, Nat.zero_le _⟩ (Nat.le_of_ble_eq_true rfl) dX6_share_2 rfl rfl ?_
  refine J_getR (T := TX4) (f' := 12) (i' := r2) (pc1 := 8) (eC11 h3) rfl rfl inX4 1 (by decide) rfl rfl flX6_120 rfl dX6_share_5 rfl ?_
  obtain ⟨r5, hc4, h⟩ := gBp_s h
  refine J_callV (As := []) (ad := ad) (f := 12) (i := r2) (st := []) (st1 := [.int r5]) (pc1 := 11) (kX1_members l D tc sa ad nc hnc hI r2 h3 μ r5 hc4) wcX1_members wlX6_301 (eC12 h3) rfl rfl rfl ⟨rfl, rfl, Nat.le_of_ble_eq_true rfl, Nat.le_of_ble_eq_true rfl⟩ ⟨Nat.zero_le _, Nat.zero_le _⟩ (Nat.le_of_ble_eq_true rfl) dX6_share_8 rfl rfl ?_
  refine J_istore_n (i := 2) (lv1 := [(2, .int r5), (0, .ref (ad 0 0)), (1, .int a1)]) (pc1 := 12) dX6_share_11 rfl (by decide) rfl rfl ?_
  refine J_iconst (v := 0) (pc1 := 13) dX6_share_12 (by decide) rfl ?_
  refine J_istore_n (i := 3) (lv1 := [(3, .int 0), (2, .int r5), (0, .ref (ad 0 0)), (1, .int a1)]) (pc1 := 14) dX6_share_13 rfl (by decide) rfl rfl ?_
  refine J_iconst (v := 0) (pc1 := 15) dX6_share_14 (by decide) rfl ?_
  refine J_istore (i := 4) (lv1 := [(4, .int 0), (3, .int 0), (2, .int r5), (0, .ref (ad 0 0)), (1, .int a1)]) (pc1 := 17) dX6_share_15 (by decide) rfl rfl ?_
  refine J_iconst (v := 0) (pc1 := 18) dX6_share_17 (by decide) rfl ?_
  refine J_istore (i := 5) (lv1 := [(5, .int 0), (4, .int 0), (3, .int 0), (2, .int r5), (0, .ref (ad 0 0)), (1, .int a1)]) (pc1 := 20) dX6_share_18 (by decide) rfl rfl ?_
  obtain ⟨j8, ej8, h⟩ := gJon_s h
  have kj8 : ∀ (x6 : Int32) (x7 : Int32), j8 x6 x7 = some (.inr r) → JC p l e ({ frames := 1, cells := 0, slots := 0, locals := 21 } : Room) s m args below meth c cX6_share 7 RX6 D tc sa ad nc sz (some (.double r)) μ μ 83 [(3, .int x6), (4, .int x7)] [] := by
    intro x6 x7 h
    rw [ej8] at h
    try dsimp only at h
    refine J_iload (i := 4) (q := 1) (pc1 := 85) dX6_share_83 rfl rfl ?_
    refine J_if_ne (tgt := 99) (pc1 := 88) dX6_share_85 (by decide) (fun q9 => ?_) rfl (fun q9 => ?_)
    · rw [if_neg q9] at h
      refine J_iload_n (i := 3) (q := 0) (pc1 := 100) dX6_share_99 rfl rfl rfl ?_
      refine J_i2d (pc1 := 101) dX6_share_100 rfl ?_
      refine J_iload (i := 4) (q := 1) (pc1 := 103) dX6_share_101 rfl rfl ?_
      refine J_i2d (pc1 := 104) dX6_share_103 rfl ?_
      obtain ⟨h10, h⟩ := gChk_s h
      refine J_ddiv (pc1 := 105) dX6_share_104 h10 rfl ?_
      simp only [Option.some.injEq, Sum.inr.injEq, Prod.mk.injEq, reduceCtorEq] at h
      subst h
      exact J_dret hr hlk dX6_share_105
    · rw [if_pos q9] at h
      cases h
  clear ej8
  refine J_sub [4, 3, 2, 1, 0] (lv1 := [(0, .ref (ad 0 0)), (2, .int r5), (3, .int 0), (4, .int 0), (5, .int 0)]) rfl ?_
  refine gFx3_s (P := fun x13 x14 x15 => JC p l e ({ frames := 1, cells := 0, slots := 0, locals := 21 } : Room) s m args below meth c cX6_share 7 RX6 D tc sa ad nc sz (some (.double r)) μ μ 20 [(0, .ref (ad 0 0)), (2, .int r5), (3, .int x13), (4, .int x14), (5, .int x15)] []) (fun rec16 ihrec16 x13 x14 x15 h => ?_) _ _ _ _ h
  try dsimp only at h
  refine J_iload (i := 5) (q := 4) (pc1 := 22) dX6_share_20 rfl rfl ?_
  refine J_iconst (v := 5) (pc1 := 23) dX6_share_22 (by decide) rfl ?_
  refine J_icmp_ge (tgt := 83) (pc1 := 26) dX6_share_23 (by decide) (fun q17 => ?_) rfl (fun q17 => ?_)
  · rw [if_pos q17] at h
    refine J_sub [2, 3] (lv1 := [(3, .int x13), (4, .int x14)]) rfl ?_
    exact kj8 _ _ h
  · rw [if_neg q17] at h
    refine J_aload_n (i := 0) (q := 0) (pc1 := 27) dX6_share_26 rfl rfl rfl ?_
    refine J_getR (T := TX6) (f' := 6) (i' := 0) (pc1 := 30) eC0 rfl rfl inX6 0 (by decide) rfl rfl flX6_12 rfl dX6_share_27 rfl ?_
    refine J_getR (T := TX0) (f' := 7) (i' := 0) (pc1 := 33) (eC6 hnc.1) rfl rfl inX0 0 (by decide) rfl rfl flX6_263 rfl dX6_share_30 rfl ?_
    refine J_iload (i := 5) (q := 4) (pc1 := 35) dX6_share_33 rfl rfl ?_
    obtain ⟨h18, h⟩ := gChk_s h
    refine J_aald (f' := 11) (i' := (5 * 0 + (x15.toNatClampNeg))) (pc1 := 36) (eC7 hnc.1) rfl rfl h18 rfl dX6_share_35 rfl ?_
    refine J_astore (i := 6) (lv1 := [(6, .ref (ad 11 (5 * 0 + (x15.toNatClampNeg)))), (0, .ref (ad 0 0)), (2, .int r5), (3, .int x13), (4, .int x14), (5, .int x15)]) (pc1 := 38) dX6_share_36 (by decide) rfl rfl ?_
    refine J_aload (i := 6) (q := 0) (pc1 := 40) dX6_share_38 rfl rfl ?_
    refine J_getI (T := TX4) (pc1 := 43) (eC11 (gRep hnc.1 h18)) rfl rfl inX4 5 (by decide) rfl flX6_97 rfl dX6_share_40 rfl ?_
    refine J_if_eq (tgt := 77) (pc1 := 46) dX6_share_43 (by decide) (fun q19 => ?_) rfl (fun q19 => ?_)
    · rw [if_pos q19] at h
      refine J_iinc (i := 5) (q := 5) (v := x15 + 1) (lv1 := [(5, .int (x15 + 1)), (6, .ref (ad 11 (5 * 0 + (x15.toNatClampNeg)))), (0, .ref (ad 0 0)), (2, .int r5), (3, .int x13), (4, .int x14)]) (pc1 := 80) dX6_share_77 rfl rfl (by decide) rfl rfl ?_
      refine J_goto (tgt := 20) dX6_share_80 (by decide) ?_
      refine J_sub [2, 3, 4, 5, 0] (lv1 := [(0, .ref (ad 0 0)), (2, .int r5), (3, .int x13), (4, .int x14), (5, .int (x15 + 1))]) rfl ?_
      exact ihrec16 _ _ _ h
    · rw [if_neg q19] at h
      refine J_iload_n (i := 2) (q := 2) (pc1 := 47) dX6_share_46 rfl rfl rfl ?_
      refine J_iload (i := 5) (q := 5) (pc1 := 49) dX6_share_47 rfl rfl ?_
      refine J_ishr (pc1 := 50) dX6_share_49 rfl ?_
      refine J_iconst (v := 1) (pc1 := 51) dX6_share_50 (by decide) rfl ?_
      refine J_iand (pc1 := 52) dX6_share_51 rfl ?_
      refine J_iconst (v := 1) (pc1 := 53) dX6_share_52 (by decide) rfl ?_
      refine J_icmp_ne (tgt := 77) (pc1 := 56) dX6_share_53 (by decide) (fun q20 => ?_) rfl (fun q20 => ?_)
      · rw [if_neg q20] at h
        refine J_iinc (i := 5) (q := 5) (v := x15 + 1) (lv1 := [(5, .int (x15 + 1)), (6, .ref (ad 11 (5 * 0 + (x15.toNatClampNeg)))), (0, .ref (ad 0 0)), (2, .int r5), (3, .int x13), (4, .int x14)]) (pc1 := 80) dX6_share_77 rfl rfl (by decide) rfl rfl ?_
        refine J_goto (tgt := 20) dX6_share_80 (by decide) ?_
        refine J_sub [2, 3, 4, 5, 0] (lv1 := [(0, .ref (ad 0 0)), (2, .int r5), (3, .int x13), (4, .int x14), (5, .int (x15 + 1))]) rfl ?_
        exact ihrec16 _ _ _ h
      · rw [if_pos q20] at h
        refine J_iload_n (i := 3) (q := 3) (pc1 := 57) dX6_share_56 rfl rfl rfl ?_
        refine J_aload (i := 6) (q := 0) (pc1 := 59) dX6_share_57 rfl rfl ?_
        refine J_getI (T := TX4) (pc1 := 62) (eC11 (gRep hnc.1 h18)) rfl rfl inX4 9 (by decide) rfl flX6_159 rfl dX6_share_59 rfl ?_
        refine J_iadd (pc1 := 63) dX6_share_62 rfl ?_
        obtain ⟨x21, e23, h⟩ := gLet_s h
        refine J_top (fun y22 e24 => ?_)
        have e24x : x21 = y22 := (e24.trans e23.symm).symm
        subst e24x
        refine J_istore_n (i := 3) (lv1 := [(3, .int x21), (6, .ref (ad 11 (5 * 0 + (x15.toNatClampNeg)))), (0, .ref (ad 0 0)), (2, .int r5), (4, .int x14), (5, .int x15)]) (pc1 := 64) dX6_share_63 rfl (by decide) rfl rfl ?_
        refine J_iload (i := 4) (q := 4) (pc1 := 66) dX6_share_64 rfl rfl ?_
        refine J_aload (i := 6) (q := 1) (pc1 := 68) dX6_share_66 rfl rfl ?_
        refine J_getR (T := TX4) (f' := 12) (i' := (5 * 0 + (x15.toNatClampNeg))) (pc1 := 71) (eC11 (gRep hnc.1 h18)) rfl rfl inX4 1 (by decide) rfl rfl flX6_120 rfl dX6_share_68 rfl ?_
        obtain ⟨r26, hc25, h⟩ := gBp_s h
        refine J_callV (As := []) (ad := ad) (f := 12) (i := (5 * 0 + (x15.toNatClampNeg))) (st := [.int x14]) (st1 := [.int r26, .int x14]) (pc1 := 74) (kX1_lastIndex l D tc sa ad nc hnc hI (5 * 0 + (x15.toNatClampNeg)) (gRep hnc.1 h18) μ r26 hc25) wcX1_lastIndex wlX6_124 (eC12 (gRep hnc.1 h18)) rfl rfl rfl ⟨rfl, rfl, Nat.le_of_ble_eq_true rfl, Nat.le_of_ble_eq_true rfl⟩ ⟨Nat.zero_le _, Nat.zero_le _⟩ (Nat.le_of_ble_eq_true rfl) dX6_share_71 rfl rfl ?_
        refine J_iadd (pc1 := 75) dX6_share_74 rfl ?_
        obtain ⟨x27, e29, h⟩ := gLet_s h
        refine J_top (fun y28 e30 => ?_)
        have e30x : x27 = y28 := (e30.trans e29.symm).symm
        subst e30x
        refine J_istore (i := 4) (lv1 := [(4, .int x27), (3, .int x21), (6, .ref (ad 11 (5 * 0 + (x15.toNatClampNeg)))), (0, .ref (ad 0 0)), (2, .int r5), (5, .int x15)]) (pc1 := 77) dX6_share_75 (by decide) rfl rfl ?_
        refine J_iinc (i := 5) (q := 5) (v := x15 + 1) (lv1 := [(5, .int (x15 + 1)), (4, .int x27), (3, .int x21), (6, .ref (ad 11 (5 * 0 + (x15.toNatClampNeg)))), (0, .ref (ad 0 0)), (2, .int r5)]) (pc1 := 80) dX6_share_77 rfl rfl (by decide) rfl rfl ?_
        refine J_goto (tgt := 20) dX6_share_80 (by decide) ?_
        refine J_sub [4, 5, 2, 1, 0] (lv1 := [(0, .ref (ad 0 0)), (2, .int r5), (3, .int x21), (4, .int x27), (5, .int (x15 + 1))]) rfl ?_
        exact ihrec16 _ _ _ h
set_option maxHeartbeats 4000000 in
set_option maxRecDepth 100000 in
theorem tX6_share (l : Launch) (D : va_G) (tc : Nat → ClassId) (sa : Nat → Nat) (ad : Nat → Nat → Nat) (nc : Nat) (hnc : 0 < nc ∧ nc ≤ 2) (hI : gI (gE_C nc) ad) (a1 : Int32) (μ : gM) (hlz : l.stackTraces = false) (E0 : String) (μ' : gM) (h : mX6_share nc a1 μ = some (.inl (E0, μ'))) : gMetX l yX6_share cX6_share 7 (some .double) ({ frames := 7, cells := 1, slots := 6, locals := 121 } : Room) D (gE_C nc) gkd_C tc ad (grh_C nc) sa [.ref (ad 0 0), .int a1] μ E0 μ' := by
  refine gMetX_of hI ⟨by decide +kernel, Nat.le_of_ble_eq_true rfl⟩ (fun p e s m args below meth c sz hr hlk hT => ?_)
  unfold mX6_share at h
  show JCX p l e ({ frames := 7, cells := 1, slots := 6, locals := 121 } : Room) s m args below meth c cX6_share 7 RX6 D tc sa ad nc sz E0 μ' μ 0 [(0, .ref (ad 0 0)), (1, .int a1)] []
  refine J_aload_n (i := 0) (q := 0) (pc1 := 1) dX6_share_0 rfl rfl rfl ?_
  refine J_iload_n (i := 1) (q := 1) (pc1 := 2) dX6_share_1 rfl rfl rfl ?_
  rcases gBx_l h with hc1 | ⟨r2, hc1, h⟩
  · exact J_callX (As := [.int a1]) (ad := ad) (f := 0) (i := 0) (st := []) hT (tX6_replicaAt l D tc sa ad nc hnc hI a1 μ hlz E0 μ' hc1) wcX6_replicaAt wlX6_93 eC0 rfl rfl rfl ⟨rfl, rfl, Nat.le_of_ble_eq_true rfl, Nat.le_of_ble_eq_true rfl⟩ ⟨by decide, by decide⟩ (Nat.le_of_ble_eq_true rfl) hlk dX6_share_2
  obtain ⟨h3, h⟩ := gChk_s h
  refine J_callV (As := [.int a1]) (ad := ad) (f := 0) (i := 0) (st := []) (st1 := [.ref (ad 11 r2)]) (pc1 := 5) (kX6_replicaAt l D tc sa ad nc hnc hI a1 μ r2 hc1) wcX6_replicaAt wlX6_93 eC0 rfl rfl rfl ⟨rfl, rfl, Nat.le_of_ble_eq_true rfl, Nat.le_of_ble_eq_true rfl⟩ ⟨Nat.zero_le _, Nat.zero_le _⟩ (Nat.le_of_ble_eq_true rfl) dX6_share_2 rfl rfl ?_
  refine J_getR (T := TX4) (f' := 12) (i' := r2) (pc1 := 8) (eC11 h3) rfl rfl inX4 1 (by decide) rfl rfl flX6_120 rfl dX6_share_5 rfl ?_
  obtain ⟨r5, hc4, h⟩ := gBp_s h
  refine J_callV (As := []) (ad := ad) (f := 12) (i := r2) (st := []) (st1 := [.int r5]) (pc1 := 11) (kX1_members l D tc sa ad nc hnc hI r2 h3 μ r5 hc4) wcX1_members wlX6_301 (eC12 h3) rfl rfl rfl ⟨rfl, rfl, Nat.le_of_ble_eq_true rfl, Nat.le_of_ble_eq_true rfl⟩ ⟨Nat.zero_le _, Nat.zero_le _⟩ (Nat.le_of_ble_eq_true rfl) dX6_share_8 rfl rfl ?_
  refine J_istore_n (i := 2) (lv1 := [(2, .int r5), (0, .ref (ad 0 0)), (1, .int a1)]) (pc1 := 12) dX6_share_11 rfl (by decide) rfl rfl ?_
  refine J_iconst (v := 0) (pc1 := 13) dX6_share_12 (by decide) rfl ?_
  refine J_istore_n (i := 3) (lv1 := [(3, .int 0), (2, .int r5), (0, .ref (ad 0 0)), (1, .int a1)]) (pc1 := 14) dX6_share_13 rfl (by decide) rfl rfl ?_
  refine J_iconst (v := 0) (pc1 := 15) dX6_share_14 (by decide) rfl ?_
  refine J_istore (i := 4) (lv1 := [(4, .int 0), (3, .int 0), (2, .int r5), (0, .ref (ad 0 0)), (1, .int a1)]) (pc1 := 17) dX6_share_15 (by decide) rfl rfl ?_
  refine J_iconst (v := 0) (pc1 := 18) dX6_share_17 (by decide) rfl ?_
  refine J_istore (i := 5) (lv1 := [(5, .int 0), (4, .int 0), (3, .int 0), (2, .int r5), (0, .ref (ad 0 0)), (1, .int a1)]) (pc1 := 20) dX6_share_18 (by decide) rfl rfl ?_
  obtain ⟨j8, ej8, h⟩ := gJon_s h
  have kj8 : ∀ (x6 : Int32) (x7 : Int32), j8 x6 x7 = some (.inl (E0, μ')) → JCX p l e ({ frames := 7, cells := 1, slots := 6, locals := 121 } : Room) s m args below meth c cX6_share 7 RX6 D tc sa ad nc sz E0 μ' μ 83 [(3, .int x6), (4, .int x7)] [] := by
    intro x6 x7 h
    rw [ej8] at h
    try dsimp only at h
    refine J_iload (i := 4) (q := 1) (pc1 := 85) dX6_share_83 rfl rfl ?_
    refine J_if_ne (tgt := 99) (pc1 := 88) dX6_share_85 (by decide) (fun q9 => ?_) rfl (fun q9 => ?_)
    · rw [if_neg q9] at h
      refine J_iload_n (i := 3) (q := 0) (pc1 := 100) dX6_share_99 rfl rfl rfl ?_
      refine J_i2d (pc1 := 101) dX6_share_100 rfl ?_
      refine J_iload (i := 4) (q := 1) (pc1 := 103) dX6_share_101 rfl rfl ?_
      refine J_i2d (pc1 := 104) dX6_share_103 rfl ?_
      obtain ⟨h10, h⟩ := gChk_s h
      refine J_ddiv (pc1 := 105) dX6_share_104 h10 rfl ?_
      simp only [Option.some.injEq, reduceCtorEq] at h
    · rw [if_pos q9] at h
      cases h
      exact J_throwSW (i := 19) (text := jsT 19) hlz hT xf_ArithmeticException clX6_304 ini_ArithmeticException ⟨by decide, rfl, rfl, rfl⟩ (xh_ArithmeticException clX6_304) hlk dX6_share_88 dX6_share_91 dX6_share_92 dX6_share_95 dX6_share_98 ⟨by decide, by decide, by decide, by decide⟩
  clear ej8
  refine J_sub [4, 3, 2, 1, 0] (lv1 := [(0, .ref (ad 0 0)), (2, .int r5), (3, .int 0), (4, .int 0), (5, .int 0)]) rfl ?_
  refine gFx3_s (P := fun x13 x14 x15 => JCX p l e ({ frames := 7, cells := 1, slots := 6, locals := 121 } : Room) s m args below meth c cX6_share 7 RX6 D tc sa ad nc sz E0 μ' μ 20 [(0, .ref (ad 0 0)), (2, .int r5), (3, .int x13), (4, .int x14), (5, .int x15)] []) (fun rec16 ihrec16 x13 x14 x15 h => ?_) _ _ _ _ h
  try dsimp only at h
  refine J_iload (i := 5) (q := 4) (pc1 := 22) dX6_share_20 rfl rfl ?_
  refine J_iconst (v := 5) (pc1 := 23) dX6_share_22 (by decide) rfl ?_
  refine J_icmp_ge (tgt := 83) (pc1 := 26) dX6_share_23 (by decide) (fun q17 => ?_) rfl (fun q17 => ?_)
  · rw [if_pos q17] at h
    refine J_sub [2, 3] (lv1 := [(3, .int x13), (4, .int x14)]) rfl ?_
    exact kj8 _ _ h
  · rw [if_neg q17] at h
    refine J_aload_n (i := 0) (q := 0) (pc1 := 27) dX6_share_26 rfl rfl rfl ?_
    refine J_getR (T := TX6) (f' := 6) (i' := 0) (pc1 := 30) eC0 rfl rfl inX6 0 (by decide) rfl rfl flX6_12 rfl dX6_share_27 rfl ?_
    refine J_getR (T := TX0) (f' := 7) (i' := 0) (pc1 := 33) (eC6 hnc.1) rfl rfl inX0 0 (by decide) rfl rfl flX6_263 rfl dX6_share_30 rfl ?_
    refine J_iload (i := 5) (q := 4) (pc1 := 35) dX6_share_33 rfl rfl ?_
    obtain ⟨h18, h⟩ := gChk_s h
    refine J_aald (f' := 11) (i' := (5 * 0 + (x15.toNatClampNeg))) (pc1 := 36) (eC7 hnc.1) rfl rfl h18 rfl dX6_share_35 rfl ?_
    refine J_astore (i := 6) (lv1 := [(6, .ref (ad 11 (5 * 0 + (x15.toNatClampNeg)))), (0, .ref (ad 0 0)), (2, .int r5), (3, .int x13), (4, .int x14), (5, .int x15)]) (pc1 := 38) dX6_share_36 (by decide) rfl rfl ?_
    refine J_aload (i := 6) (q := 0) (pc1 := 40) dX6_share_38 rfl rfl ?_
    refine J_getI (T := TX4) (pc1 := 43) (eC11 (gRep hnc.1 h18)) rfl rfl inX4 5 (by decide) rfl flX6_97 rfl dX6_share_40 rfl ?_
    refine J_if_eq (tgt := 77) (pc1 := 46) dX6_share_43 (by decide) (fun q19 => ?_) rfl (fun q19 => ?_)
    · rw [if_pos q19] at h
      refine J_iinc (i := 5) (q := 5) (v := x15 + 1) (lv1 := [(5, .int (x15 + 1)), (6, .ref (ad 11 (5 * 0 + (x15.toNatClampNeg)))), (0, .ref (ad 0 0)), (2, .int r5), (3, .int x13), (4, .int x14)]) (pc1 := 80) dX6_share_77 rfl rfl (by decide) rfl rfl ?_
      refine J_goto (tgt := 20) dX6_share_80 (by decide) ?_
      refine J_sub [2, 3, 4, 5, 0] (lv1 := [(0, .ref (ad 0 0)), (2, .int r5), (3, .int x13), (4, .int x14), (5, .int (x15 + 1))]) rfl ?_
      exact ihrec16 _ _ _ h
    · rw [if_neg q19] at h
      refine J_iload_n (i := 2) (q := 2) (pc1 := 47) dX6_share_46 rfl rfl rfl ?_
      refine J_iload (i := 5) (q := 5) (pc1 := 49) dX6_share_47 rfl rfl ?_
      refine J_ishr (pc1 := 50) dX6_share_49 rfl ?_
      refine J_iconst (v := 1) (pc1 := 51) dX6_share_50 (by decide) rfl ?_
      refine J_iand (pc1 := 52) dX6_share_51 rfl ?_
      refine J_iconst (v := 1) (pc1 := 53) dX6_share_52 (by decide) rfl ?_
      refine J_icmp_ne (tgt := 77) (pc1 := 56) dX6_share_53 (by decide) (fun q20 => ?_) rfl (fun q20 => ?_)
      · rw [if_neg q20] at h
        refine J_iinc (i := 5) (q := 5) (v := x15 + 1) (lv1 := [(5, .int (x15 + 1)), (6, .ref (ad 11 (5 * 0 + (x15.toNatClampNeg)))), (0, .ref (ad 0 0)), (2, .int r5), (3, .int x13), (4, .int x14)]) (pc1 := 80) dX6_share_77 rfl rfl (by decide) rfl rfl ?_
        refine J_goto (tgt := 20) dX6_share_80 (by decide) ?_
        refine J_sub [2, 3, 4, 5, 0] (lv1 := [(0, .ref (ad 0 0)), (2, .int r5), (3, .int x13), (4, .int x14), (5, .int (x15 + 1))]) rfl ?_
        exact ihrec16 _ _ _ h
      · rw [if_pos q20] at h
        refine J_iload_n (i := 3) (q := 3) (pc1 := 57) dX6_share_56 rfl rfl rfl ?_
        refine J_aload (i := 6) (q := 0) (pc1 := 59) dX6_share_57 rfl rfl ?_
        refine J_getI (T := TX4) (pc1 := 62) (eC11 (gRep hnc.1 h18)) rfl rfl inX4 9 (by decide) rfl flX6_159 rfl dX6_share_59 rfl ?_
        refine J_iadd (pc1 := 63) dX6_share_62 rfl ?_
        obtain ⟨x21, e23, h⟩ := gLet_s h
        refine J_top (fun y22 e24 => ?_)
        have e24x : x21 = y22 := (e24.trans e23.symm).symm
        subst e24x
        refine J_istore_n (i := 3) (lv1 := [(3, .int x21), (6, .ref (ad 11 (5 * 0 + (x15.toNatClampNeg)))), (0, .ref (ad 0 0)), (2, .int r5), (4, .int x14), (5, .int x15)]) (pc1 := 64) dX6_share_63 rfl (by decide) rfl rfl ?_
        refine J_iload (i := 4) (q := 4) (pc1 := 66) dX6_share_64 rfl rfl ?_
        refine J_aload (i := 6) (q := 1) (pc1 := 68) dX6_share_66 rfl rfl ?_
        refine J_getR (T := TX4) (f' := 12) (i' := (5 * 0 + (x15.toNatClampNeg))) (pc1 := 71) (eC11 (gRep hnc.1 h18)) rfl rfl inX4 1 (by decide) rfl rfl flX6_120 rfl dX6_share_68 rfl ?_
        obtain ⟨r26, hc25, h⟩ := gBp_s h
        refine J_callV (As := []) (ad := ad) (f := 12) (i := (5 * 0 + (x15.toNatClampNeg))) (st := [.int x14]) (st1 := [.int r26, .int x14]) (pc1 := 74) (kX1_lastIndex l D tc sa ad nc hnc hI (5 * 0 + (x15.toNatClampNeg)) (gRep hnc.1 h18) μ r26 hc25) wcX1_lastIndex wlX6_124 (eC12 (gRep hnc.1 h18)) rfl rfl rfl ⟨rfl, rfl, Nat.le_of_ble_eq_true rfl, Nat.le_of_ble_eq_true rfl⟩ ⟨Nat.zero_le _, Nat.zero_le _⟩ (Nat.le_of_ble_eq_true rfl) dX6_share_71 rfl rfl ?_
        refine J_iadd (pc1 := 75) dX6_share_74 rfl ?_
        obtain ⟨x27, e29, h⟩ := gLet_s h
        refine J_top (fun y28 e30 => ?_)
        have e30x : x27 = y28 := (e30.trans e29.symm).symm
        subst e30x
        refine J_istore (i := 4) (lv1 := [(4, .int x27), (3, .int x21), (6, .ref (ad 11 (5 * 0 + (x15.toNatClampNeg)))), (0, .ref (ad 0 0)), (2, .int r5), (5, .int x15)]) (pc1 := 77) dX6_share_75 (by decide) rfl rfl ?_
        refine J_iinc (i := 5) (q := 5) (v := x15 + 1) (lv1 := [(5, .int (x15 + 1)), (4, .int x27), (3, .int x21), (6, .ref (ad 11 (5 * 0 + (x15.toNatClampNeg)))), (0, .ref (ad 0 0)), (2, .int r5)]) (pc1 := 80) dX6_share_77 rfl rfl (by decide) rfl rfl ?_
        refine J_goto (tgt := 20) dX6_share_80 (by decide) ?_
        refine J_sub [4, 5, 2, 1, 0] (lv1 := [(0, .ref (ad 0 0)), (2, .int r5), (3, .int x21), (4, .int x27), (5, .int (x15 + 1))]) rfl ?_
        exact ihrec16 _ _ _ h
