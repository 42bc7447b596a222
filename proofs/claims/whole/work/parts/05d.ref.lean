theorem wlX7_219 : Cond.methodLink RX7 219 yJ0_charAt_5068e ∈ BIG := bigT8 (i := 157) rfl rfl
theorem wlX7_231 : Cond.methodLink RX7 231 yX7_must ∈ BIG := bigT8 (i := 158) rfl rfl
theorem imX7_must : Cond.instanceMethod yX7_must ∈ BIG := bigT8 (i := 160) rfl rfl
theorem seX7_must : Cond.selects yX7_must.cls yX7_must yX7_must ∈ BIG := bigS6 (i := 2) (q := (yX7_must, 14)) rfl
theorem cdX7_must : Cond.code yX7_must cX7_must 3 (none) ∈ BIG := bigT8 (i := 161) rfl rfl
theorem wcX7_must : wCv yX7_must cX7_must 3 (none) 1 := ⟨⟨imX7_must, seX7_must, iniX7, cdX7_must⟩, by decide +kernel⟩
theorem wlX7_235 : Cond.methodLink RX7 235 yX7_passNumber ∈ BIG := bigT8 (i := 162) rfl rfl
theorem imX7_passNumber : Cond.instanceMethod yX7_passNumber ∈ BIG := bigT8 (i := 164) rfl rfl
theorem seX7_passNumber : Cond.selects yX7_passNumber.cls yX7_passNumber yX7_passNumber ∈ BIG := bigS6 (i := 3) (q := (yX7_passNumber, 14)) rfl
theorem cdX7_passNumber : Cond.code yX7_passNumber cX7_passNumber 3 (some .int) ∈ BIG := bigT8 (i := 165) rfl rfl
theorem wcX7_passNumber : wCv yX7_passNumber cX7_passNumber 3 (some .int) 0 := ⟨⟨imX7_passNumber, seX7_passNumber, iniX7, cdX7_passNumber⟩, by decide +kernel⟩
theorem wlX7_228 : Cond.methodLink RX7 228 yX7_isWord ∈ BIG := bigT8 (i := 152) rfl rfl
theorem imX7_isWord : Cond.instanceMethod yX7_isWord ∈ BIG := bigT8 (i := 154) rfl rfl
theorem seX7_isWord : Cond.selects yX7_isWord.cls yX7_isWord yX7_isWord ∈ BIG := bigS6 (i := 1) (q := (yX7_isWord, 14)) rfl
theorem cdX7_isWord : Cond.code yX7_isWord cX7_isWord 6 (some .boolean) ∈ BIG := bigT8 (i := 155) rfl rfl
theorem wcX7_isWord : wCv yX7_isWord cX7_isWord 6 (some .boolean) 3 := ⟨⟨imX7_isWord, seX7_isWord, iniX7, cdX7_isWord⟩, by decide +kernel⟩
theorem wlX7_263 : Cond.methodLink RX7 263 yX7_passCommand ∈ BIG := bigT8 (i := 144) rfl rfl
theorem imX7_passCommand : Cond.instanceMethod yX7_passCommand ∈ BIG := bigT8 (i := 146) rfl rfl
theorem seX7_passCommand : Cond.selects yX7_passCommand.cls yX7_passCommand yX7_passCommand ∈ BIG := bigS5 (i := 15) (q := (yX7_passCommand, 14)) rfl
theorem cdX7_passCommand : Cond.code yX7_passCommand cX7_passCommand 3 (none) ∈ BIG := bigT8 (i := 147) rfl rfl
theorem wcX7_passCommand : wCv yX7_passCommand cX7_passCommand 3 (none) 0 := ⟨⟨imX7_passCommand, seX7_passCommand, iniX7, cdX7_passCommand⟩, by decide +kernel⟩
theorem wlX7_266 : Cond.methodLink RX7 266 yX7_performCommand ∈ BIG := bigT8 (i := 166) rfl rfl
theorem imX7_performCommand : Cond.instanceMethod yX7_performCommand ∈ BIG := bigT8 (i := 168) rfl rfl
theorem seX7_performCommand : Cond.selects yX7_performCommand.cls yX7_performCommand yX7_performCommand ∈ BIG := bigS6 (i := 4) (q := (yX7_performCommand, 14)) rfl
theorem cdX7_performCommand : Cond.code yX7_performCommand cX7_performCommand 1 (none) ∈ BIG := bigT8 (i := 169) rfl rfl
theorem wcX7_performCommand : wCv yX7_performCommand cX7_performCommand 1 (none) 0 := ⟨⟨imX7_performCommand, seX7_performCommand, iniX7, cdX7_performCommand⟩, by decide +kernel⟩
def mX7_isWord (a1 : Int32) (a2 : Int32) (a3 : Int32) (μ : gM) : Option Int32 :=
  gLet (α := Int32) (if 7 < a3 then 0 else 1) fun x1 =>
  gJon (fun (x5 : Int32) =>
      gChk (x5 = 0 ∨ x5 = 1) <|
      some x5) fun j6 =>
  gFx2 (fun rec10 (x8 : Int32) (x9 : Int32) =>
      if 7 ≤ x9 then
        j6 x8
      else
        if x8 = 0 then
          j6 x8
        else
          gChk (inb ((7 * a1) + x9) (jsB 31).length) <|
          gChk (((7 * a1) + x9) < Int32.ofNat (jsB 31).length) <|
          gChk (vp_nar .char (i2c ((jsB 31).getD ((7 * a1) + x9).toNatClampNeg 0 &&& 255)) = i2c ((jsB 31).getD ((7 * a1) + x9).toNatClampNeg 0 &&& 255)) <|
          gLet (α := Int32) (i2c ((jsB 31).getD ((7 * a1) + x9).toNatClampNeg 0 &&& 255)) fun x16 =>
          gJon (fun (x20 : Int32) =>
              gLet (α := Int32) (if x16 = x20 then 1 else 0) fun x22 =>
              rec10 x22 (x9 + 1)) fun j21 =>
          if a3 ≤ x9 then
            j21 32
          else
            gChk (inb (a2 + x9) 80) <|
            j21 (μ 5 0 ((a2 + x9).toNatClampNeg))) 1000000 x1 0
set_option maxHeartbeats 4000000 in
set_option maxRecDepth 100000 in
theorem kX7_isWord (l : Launch) (D : va_G) (tc : Nat → ClassId) (sa : Nat → Nat) (ad : Nat → Nat → Nat) (hI : gI gE_R ad) (a1 : Int32) (a2 : Int32) (a3 : Int32) (μ : gM) (r : Int32) (h : mX7_isWord a1 a2 a3 μ = some r) : gMet l yX7_isWord cX7_isWord 6 (some .boolean) ({ frames := 4, cells := 0, slots := 0, locals := 90 } : Room) D gE_R gkd_R tc ad grh_R sa [.ref (ad 0 0), .int a1, .int a2, .int a3] μ (some (.int r)) μ := by
  refine gMet_of hI ⟨by decide +kernel, Nat.le_of_ble_eq_true rfl⟩ (fun p e s m args below meth c sz hr hlk => ?_)
  unfold mX7_isWord at h
  show JR p l e ({ frames := 4, cells := 0, slots := 0, locals := 90 } : Room) s m args below meth c cX7_isWord 6 RX7 D tc sa ad sz (some (.int r)) μ μ 0 [(0, .ref (ad 0 0)), (1, .int a1), (2, .int a2), (3, .int a3)] []
  refine J_iload_n (i := 3) (q := 3) (pc1 := 1) dX7_isWord_0 rfl rfl rfl ?_
  refine J_bipush (v := 7) (pc1 := 3) dX7_isWord_1 (by decide) rfl ?_
  obtain ⟨x1, e2, h⟩ := gLet_s h
  have k3 : JR p l e ({ frames := 4, cells := 0, slots := 0, locals := 90 } : Room) s m args below meth c cX7_isWord 6 RX7 D tc sa ad sz (some (.int r)) μ μ 11 [(0, .ref (ad 0 0)), (1, .int a1), (2, .int a2), (3, .int a3)] [.int x1] := by
    refine J_istore (i := 4) (lv1 := [(4, .int x1), (0, .ref (ad 0 0)), (1, .int a1), (2, .int a2), (3, .int a3)]) (pc1 := 13) dX7_isWord_11 (by decide) rfl rfl ?_
    refine J_iconst (v := 0) (pc1 := 14) dX7_isWord_13 (by decide) rfl ?_
    refine J_istore (i := 5) (lv1 := [(5, .int 0), (4, .int x1), (0, .ref (ad 0 0)), (1, .int a1), (2, .int a2), (3, .int a3)]) (pc1 := 16) dX7_isWord_14 (by decide) rfl rfl ?_
    obtain ⟨j6, ej6, h⟩ := gJon_s h
    have kj6 : ∀ (x5 : Int32), j6 x5 = some r → JR p l e ({ frames := 4, cells := 0, slots := 0, locals := 90 } : Room) s m args below meth c cX7_isWord 6 RX7 D tc sa ad sz (some (.int r)) μ μ 76 [(4, .int x5)] [] := by
      intro x5 h
      rw [ej6] at h
      try dsimp only at h
      refine J_iload (i := 4) (q := 0) (pc1 := 78) dX7_isWord_76 rfl rfl ?_
      obtain ⟨h7, h⟩ := gChk_s h
      cases h
      exact J_zret h7 hr hlk dX7_isWord_78
    clear ej6
    refine J_sub [2, 3, 4, 5, 1, 0] (lv1 := [(0, .ref (ad 0 0)), (1, .int a1), (2, .int a2), (3, .int a3), (4, .int x1), (5, .int 0)]) rfl ?_
    refine gFx2_s (P := fun x8 x9 => JR p l e ({ frames := 4, cells := 0, slots := 0, locals := 90 } : Room) s m args below meth c cX7_isWord 6 RX7 D tc sa ad sz (some (.int r)) μ μ 16 [(0, .ref (ad 0 0)), (1, .int a1), (2, .int a2), (3, .int a3), (4, .int x8), (5, .int x9)] []) (fun rec10 ihrec10 x8 x9 h => ?_) _ _ _ h
    try dsimp only at h
    refine J_iload (i := 5) (q := 5) (pc1 := 18) dX7_isWord_16 rfl rfl ?_
    refine J_bipush (v := 7) (pc1 := 20) dX7_isWord_18 (by decide) rfl ?_
    refine J_icmp_ge (tgt := 76) (pc1 := 23) dX7_isWord_20 (by decide) (fun q11 => ?_) rfl (fun q11 => ?_)
    · rw [if_pos q11] at h
      refine J_sub [4] (lv1 := [(4, .int x8)]) rfl ?_
      exact kj6 _ h
    · rw [if_neg q11] at h
      refine J_iload (i := 4) (q := 4) (pc1 := 25) dX7_isWord_23 rfl rfl ?_
      refine J_if_eq (tgt := 76) (pc1 := 28) dX7_isWord_25 (by decide) (fun q12 => ?_) rfl (fun q12 => ?_)
      · rw [if_pos q12] at h
        refine J_sub [4] (lv1 := [(4, .int x8)]) rfl ?_
        exact kj6 _ h
      · rw [if_neg q12] at h
        refine J_ldcS (i := 31) (tx := jsT 31) (pc1 := 30) ⟨by decide, rfl, rfl, rfl⟩ dX7_isWord_28 rfl ?_
        refine J_bipush (v := 7) (pc1 := 32) dX7_isWord_30 (by decide) rfl ?_
        refine J_iload_n (i := 1) (q := 1) (pc1 := 33) dX7_isWord_32 rfl rfl rfl ?_
        refine J_imul (pc1 := 34) dX7_isWord_33 rfl ?_
        refine J_iload (i := 5) (q := 5) (pc1 := 36) dX7_isWord_34 rfl rfl ?_
        refine J_iadd (pc1 := 37) dX7_isWord_36 rfl ?_
        obtain ⟨h13, h⟩ := gChk_s h
        obtain ⟨h14, h⟩ := gChk_s h
        obtain ⟨h15, h⟩ := gChk_s h
        refine J_callK (As := [.int ((7 * a1) + x9)]) (pc1 := 40) (st := []) (st1 := [.int (i2c ((jsB 31).getD ((7 * a1) + x9).toNatClampNeg 0 &&& 255))]) ⟨by decide, by decide⟩ (kJ0_charAt l D gE_R gkd_R tc sa ad grh_R hI μ ⟨by decide, by decide⟩ h13 h14 h15) wcJ0_charAt_5068e wlX7_219 rfl rfl ⟨rfl, rfl, Nat.le_of_ble_eq_true rfl, Nat.le_of_ble_eq_true rfl⟩ ⟨Nat.zero_le _, Nat.zero_le _⟩ (Nat.le_of_ble_eq_true rfl) dX7_isWord_37 rfl rfl ?_
        obtain ⟨x16, e18, h⟩ := gLet_s h
        refine J_top (fun y17 e19 => ?_)
        have e19x : x16 = y17 := (e19.trans e18.symm).symm
        subst e19x
        refine J_iload (i := 5) (q := 5) (pc1 := 42) dX7_isWord_40 rfl rfl ?_
        refine J_iload_n (i := 3) (q := 3) (pc1 := 43) dX7_isWord_42 rfl rfl rfl ?_
        obtain ⟨j21, ej21, h⟩ := gJon_s h
        have kj21 : ∀ (x20 : Int32), j21 x20 = some r → JR p l e ({ frames := 4, cells := 0, slots := 0, locals := 90 } : Room) s m args below meth c cX7_isWord 6 RX7 D tc sa ad sz (some (.int r)) μ μ 60 [(0, .ref (ad 0 0)), (1, .int a1), (2, .int a2), (3, .int a3), (5, .int x9)] [.int x20, .int x16] := by
          intro x20 h
          rw [ej21] at h
          try dsimp only at h
          obtain ⟨x22, e23, h⟩ := gLet_s h
          have k24 : JR p l e ({ frames := 4, cells := 0, slots := 0, locals := 90 } : Room) s m args below meth c cX7_isWord 6 RX7 D tc sa ad sz (some (.int r)) μ μ 68 [(0, .ref (ad 0 0)), (1, .int a1), (2, .int a2), (3, .int a3), (5, .int x9)] [.int x22] := by
            refine J_istore (i := 4) (lv1 := [(4, .int x22), (0, .ref (ad 0 0)), (1, .int a1), (2, .int a2), (3, .int a3), (5, .int x9)]) (pc1 := 70) dX7_isWord_68 (by decide) rfl rfl ?_
            refine J_iinc (i := 5) (q := 5) (v := x9 + 1) (lv1 := [(5, .int (x9 + 1)), (4, .int x22), (0, .ref (ad 0 0)), (1, .int a1), (2, .int a2), (3, .int a3)]) (pc1 := 73) dX7_isWord_70 rfl rfl (by decide) rfl rfl ?_
            refine J_goto (tgt := 16) dX7_isWord_73 (by decide) ?_
            refine J_sub [2, 3, 4, 5, 1, 0] (lv1 := [(0, .ref (ad 0 0)), (1, .int a1), (2, .int a2), (3, .int a3), (4, .int x22), (5, .int (x9 + 1))]) rfl ?_
            exact ihrec10 _ _ h
          refine J_icmp_ne (tgt := 67) (pc1 := 63) dX7_isWord_60 (by decide) (fun q25 => ?_) rfl (fun q25 => ?_)
          · rw [if_neg q25] at e23
            subst e23
            refine J_iconst (v := 0) (pc1 := 68) dX7_isWord_67 (by decide) rfl ?_
            exact k24
          · rw [if_pos q25] at e23
            subst e23
            refine J_iconst (v := 1) (pc1 := 64) dX7_isWord_63 (by decide) rfl ?_
            refine J_goto (tgt := 68) dX7_isWord_64 (by decide) ?_
            exact k24
        clear ej21
        refine J_icmp_ge (tgt := 58) (pc1 := 46) dX7_isWord_43 (by decide) (fun q26 => ?_) rfl (fun q26 => ?_)
        · rw [if_pos q26] at h
          refine J_bipush (v := 32) (pc1 := 60) dX7_isWord_58 (by decide) rfl ?_
          refine J_sub [0, 1, 2, 3, 5] (lv1 := [(0, .ref (ad 0 0)), (1, .int a1), (2, .int a2), (3, .int a3), (5, .int x9)]) rfl ?_
          exact kj21 _ h
        · rw [if_neg q26] at h
          refine J_aload_n (i := 0) (q := 0) (pc1 := 47) dX7_isWord_46 rfl rfl rfl ?_
          refine J_getR (T := TX7) (f' := 5) (i' := 0) (pc1 := 50) eR0 rfl rfl inX7 5 (by decide) rfl rfl flX7_19 rfl dX7_isWord_47 rfl ?_
          refine J_iload_n (i := 2) (q := 2) (pc1 := 51) dX7_isWord_50 rfl rfl rfl ?_
          refine J_iload (i := 5) (q := 5) (pc1 := 53) dX7_isWord_51 rfl rfl ?_
          refine J_iadd (pc1 := 54) dX7_isWord_53 rfl ?_
          obtain ⟨h27, h⟩ := gChk_s h
          refine J_cald (ix := ((a2 + x9).toNatClampNeg)) (pc1 := 55) rfl eR5 rfl h27 dX7_isWord_54 rfl ?_
          refine J_goto (tgt := 60) dX7_isWord_55 (by decide) ?_
          refine J_sub [0, 1, 2, 3, 5] (lv1 := [(0, .ref (ad 0 0)), (1, .int a1), (2, .int a2), (3, .int a3), (5, .int x9)]) rfl ?_
          exact kj21 _ h
  refine J_icmp_gt (tgt := 10) (pc1 := 6) dX7_isWord_3 (by decide) (fun q4 => ?_) rfl (fun q4 => ?_)
  · rw [if_pos q4] at e2
    subst e2
    refine J_iconst (v := 0) (pc1 := 11) dX7_isWord_10 (by decide) rfl ?_
    exact k3
  · rw [if_neg q4] at e2
    subst e2
    refine J_iconst (v := 1) (pc1 := 7) dX7_isWord_6 (by decide) rfl ?_
    refine J_goto (tgt := 11) dX7_isWord_7 (by decide) ?_
    exact k3
def mX7_passCommand  (μ : gM) : Option gM :=
  gLet (α := Int32) (μ 0 0 7) fun x1 =>
  gJon (fun (μ5 : gM) =>
      gLet (α := gM) (w3 μ5 0 0 8 (-1)) fun μ7 =>
      gJon (fun (μ9 : gM) =>
          if 0 ≤ (μ9 0 0 8) then
            gBp (mX7_must 32 μ9) fun μ13 =>
            gBd (mX7_passNumber μ13) fun r15 μ16 =>
            gLet (α := gM) (w3 μ16 0 0 9 r15) fun μ17 =>
            gJon (fun (μ19 : gM) =>
                gBp (mX7_must 59 μ19) fun μ22 =>
                some μ22) fun j20 =>
            if (μ17 0 0 8) < 3 then
              j20 μ17
            else
              if 5 < (μ17 0 0 8) then
                j20 μ17
              else
                gBp (mX7_must 44 μ17) fun μ26 =>
                gBd (mX7_passNumber μ26) fun r28 μ29 =>
                gLet (α := gM) (w3 μ29 0 0 10 r28) fun μ30 =>
                j20 μ30
          else
            gLet (α := gM) (w3 μ9 0 0 11 1) fun μ32 =>
            gLet (α := gM) (w3 μ32 0 0 7 x1) fun μ34 =>
            some μ34) fun j10 =>
      gFx2 (fun rec38 (x36 : Int32) (μ37 : gM) =>
          if 7 ≤ x36 then
            j10 μ37
          else
            gBp (mX7_isWord x36 x1 ((μ37 0 0 7) - x1) μ37) fun r41 =>
            gLet (α := Int32) (if r41 = 0 then μ37 0 0 8 else x36) fun x42 =>
            gLet (α := gM) (w3 μ37 0 0 8 x42) fun μ46 =>
            rec38 (x36 + 1) μ46) 1000000 0 μ7) fun j6 =>
  gFx1 (fun rec49 (μ48 : gM) =>
      gBp (mX7_sees 97 122 μ48) fun r51 =>
      if r51 = 0 then
        j6 μ48
      else
        gLet (α := gM) (w3 μ48 0 0 7 ((μ48 0 0 7) + 1)) fun μ53 =>
        rec49 μ53) 1000000 μ
set_option maxHeartbeats 4000000 in
set_option maxRecDepth 100000 in
theorem kX7_passCommand (l : Launch) (D : va_G) (tc : Nat → ClassId) (sa : Nat → Nat) (ad : Nat → Nat → Nat) (hI : gI gE_R ad)  (μ : gM) (μ' : gM) (h : mX7_passCommand  μ = some μ') : gMet l yX7_passCommand cX7_passCommand 3 (none) ({ frames := 5, cells := 0, slots := 0, locals := 115 } : Room) D gE_R gkd_R tc ad grh_R sa [.ref (ad 0 0)] μ (none) μ' := by
  refine gMet_of hI ⟨by decide +kernel, Nat.le_of_ble_eq_true rfl⟩ (fun p e s m args below meth c sz hr hlk => ?_)
  unfold mX7_passCommand at h
  show JR p l e ({ frames := 5, cells := 0, slots := 0, locals := 115 } : Room) s m args below meth c cX7_passCommand 3 RX7 D tc sa ad sz (none) μ' μ 0 [(0, .ref (ad 0 0))] []
  refine J_aload_n (i := 0) (q := 0) (pc1 := 1) dX7_passCommand_0 rfl rfl rfl ?_
  refine J_getI (T := TX7) (pc1 := 4) eR0 rfl rfl inX7 7 (by decide) rfl flX7_210 rfl dX7_passCommand_1 rfl ?_
  obtain ⟨x1, e3, h⟩ := gLet_s h
  refine J_top (fun y2 e4 => ?_)
  have e4x : x1 = y2 := (e4.trans e3.symm).symm
  subst e4x
  refine J_istore_n (i := 1) (lv1 := [(1, .int x1), (0, .ref (ad 0 0))]) (pc1 := 5) dX7_passCommand_4 rfl (by decide) rfl rfl ?_
  obtain ⟨j6, ej6, h⟩ := gJon_s h
  have kj6 : ∀ (μ5 : gM), j6 μ5 = some μ' → JR p l e ({ frames := 5, cells := 0, slots := 0, locals := 115 } : Room) s m args below meth c cX7_passCommand 3 RX7 D tc sa ad sz (none) μ' μ5 29 [(0, .ref (ad 0 0)), (1, .int x1)] [] := by
    intro μ5 h
    rw [ej6] at h
    try dsimp only at h
    refine J_aload_n (i := 0) (q := 0) (pc1 := 30) dX7_passCommand_29 rfl rfl rfl ?_
    refine J_iconst (v := (-1)) (pc1 := 31) dX7_passCommand_30 (by decide) rfl ?_
    refine J_putI (T := TX7) (pc1 := 34) eR0 rfl rfl inX7 tyX7 tyX7_ok nmX7 8 (by decide) rfl (fun _ _ _ _ => rfl) flX7_225 rfl rfl rfl rfl dX7_passCommand_31 rfl ?_
    obtain ⟨μ7, e8, h⟩ := gLet_s h
    rw [← e8]
    clear e8
    refine J_iconst (v := 0) (pc1 := 35) dX7_passCommand_34 (by decide) rfl ?_
    refine J_istore_n (i := 2) (lv1 := [(2, .int 0), (0, .ref (ad 0 0)), (1, .int x1)]) (pc1 := 36) dX7_passCommand_35 rfl (by decide) rfl rfl ?_
    obtain ⟨j10, ej10, h⟩ := gJon_s h
    have kj10 : ∀ (μ9 : gM), j10 μ9 = some μ' → JR p l e ({ frames := 5, cells := 0, slots := 0, locals := 115 } : Room) s m args below meth c cX7_passCommand 3 RX7 D tc sa ad sz (none) μ' μ9 75 [(0, .ref (ad 0 0)), (1, .int x1)] [] := by
      intro μ9 h
      rw [ej10] at h
      try dsimp only at h
      refine J_aload_n (i := 0) (q := 0) (pc1 := 76) dX7_passCommand_75 rfl rfl rfl ?_
      refine J_getI (T := TX7) (pc1 := 79) eR0 rfl rfl inX7 8 (by decide) rfl flX7_225 rfl dX7_passCommand_76 rfl ?_
      refine J_if_ge (tgt := 93) (pc1 := 82) dX7_passCommand_79 (by decide) (fun q11 => ?_) rfl (fun q11 => ?_)
      · rw [if_pos q11] at h
        refine J_aload_n (i := 0) (q := 0) (pc1 := 94) dX7_passCommand_93 rfl rfl rfl ?_
        refine J_bipush (v := 32) (pc1 := 96) dX7_passCommand_94 (by decide) rfl ?_
        obtain ⟨μ13, hc12, h⟩ := gBp_s h
        refine J_callV (As := [.int 32]) (ad := ad) (f := 0) (i := 0) (st := []) (st1 := []) (pc1 := 99) (kX7_must l D tc sa ad hI 32 μ9 μ13 hc12) wcX7_must wlX7_231 eR0 rfl rfl rfl ⟨rfl, rfl, Nat.le_of_ble_eq_true rfl, Nat.le_of_ble_eq_true rfl⟩ ⟨Nat.zero_le _, Nat.zero_le _⟩ (Nat.le_of_ble_eq_true rfl) dX7_passCommand_96 rfl rfl ?_
        refine J_aload_n (i := 0) (q := 0) (pc1 := 100) dX7_passCommand_99 rfl rfl rfl ?_
        refine J_aload_n (i := 0) (q := 0) (pc1 := 101) dX7_passCommand_100 rfl rfl rfl ?_
        obtain ⟨r15, μ16, hc14, h⟩ := gBd_s h
        refine J_callV (As := []) (ad := ad) (f := 0) (i := 0) (st := [.ref (ad 0 0)]) (st1 := [.int r15, .ref (ad 0 0)]) (pc1 := 104) (kX7_passNumber l D tc sa ad hI  μ13 r15 μ16 hc14) wcX7_passNumber wlX7_235 eR0 rfl rfl rfl ⟨rfl, rfl, Nat.le_of_ble_eq_true rfl, Nat.le_of_ble_eq_true rfl⟩ ⟨Nat.zero_le _, Nat.zero_le _⟩ (Nat.le_of_ble_eq_true rfl) dX7_passCommand_101 rfl rfl ?_
        refine J_putI (T := TX7) (pc1 := 107) eR0 rfl rfl inX7 tyX7 tyX7_ok nmX7 9 (by decide) rfl (fun _ _ _ _ => rfl) flX7_238 rfl rfl rfl rfl dX7_passCommand_104 rfl ?_
        obtain ⟨μ17, e18, h⟩ := gLet_s h
        rw [← e18]
        clear e18
        refine J_aload_n (i := 0) (q := 0) (pc1 := 108) dX7_passCommand_107 rfl rfl rfl ?_
        refine J_getI (T := TX7) (pc1 := 111) eR0 rfl rfl inX7 8 (by decide) rfl flX7_225 rfl dX7_passCommand_108 rfl ?_
        refine J_iconst (v := 3) (pc1 := 112) dX7_passCommand_111 (by decide) rfl ?_
        obtain ⟨j20, ej20, h⟩ := gJon_s h
        have kj20 : ∀ (μ19 : gM), j20 μ19 = some μ' → JR p l e ({ frames := 5, cells := 0, slots := 0, locals := 115 } : Room) s m args below meth c cX7_passCommand 3 RX7 D tc sa ad sz (none) μ' μ19 137 [(0, .ref (ad 0 0))] [] := by
          intro μ19 h
          rw [ej20] at h
          try dsimp only at h
          refine J_aload_n (i := 0) (q := 0) (pc1 := 138) dX7_passCommand_137 rfl rfl rfl ?_
          refine J_bipush (v := 59) (pc1 := 140) dX7_passCommand_138 (by decide) rfl ?_
          obtain ⟨μ22, hc21, h⟩ := gBp_s h
          refine J_callV (As := [.int 59]) (ad := ad) (f := 0) (i := 0) (st := []) (st1 := []) (pc1 := 143) (kX7_must l D tc sa ad hI 59 μ19 μ22 hc21) wcX7_must wlX7_231 eR0 rfl rfl rfl ⟨rfl, rfl, Nat.le_of_ble_eq_true rfl, Nat.le_of_ble_eq_true rfl⟩ ⟨Nat.zero_le _, Nat.zero_le _⟩ (Nat.le_of_ble_eq_true rfl) dX7_passCommand_140 rfl rfl ?_
          cases h
          exact J_vret hr hlk dX7_passCommand_143
        clear ej20
        refine J_icmp_lt (tgt := 137) (pc1 := 115) dX7_passCommand_112 (by decide) (fun q23 => ?_) rfl (fun q23 => ?_)
        · rw [if_pos q23] at h
          refine J_sub [0] (lv1 := [(0, .ref (ad 0 0))]) rfl ?_
          exact kj20 _ h
        · rw [if_neg q23] at h
          refine J_aload_n (i := 0) (q := 0) (pc1 := 116) dX7_passCommand_115 rfl rfl rfl ?_
          refine J_getI (T := TX7) (pc1 := 119) eR0 rfl rfl inX7 8 (by decide) rfl flX7_225 rfl dX7_passCommand_116 rfl ?_
          refine J_iconst (v := 5) (pc1 := 120) dX7_passCommand_119 (by decide) rfl ?_
          refine J_icmp_gt (tgt := 137) (pc1 := 123) dX7_passCommand_120 (by decide) (fun q24 => ?_) rfl (fun q24 => ?_)
          · rw [if_pos q24] at h
            refine J_sub [0] (lv1 := [(0, .ref (ad 0 0))]) rfl ?_
            exact kj20 _ h
          · rw [if_neg q24] at h
            refine J_aload_n (i := 0) (q := 0) (pc1 := 124) dX7_passCommand_123 rfl rfl rfl ?_
            refine J_bipush (v := 44) (pc1 := 126) dX7_passCommand_124 (by decide) rfl ?_
            obtain ⟨μ26, hc25, h⟩ := gBp_s h
            refine J_callV (As := [.int 44]) (ad := ad) (f := 0) (i := 0) (st := []) (st1 := []) (pc1 := 129) (kX7_must l D tc sa ad hI 44 μ17 μ26 hc25) wcX7_must wlX7_231 eR0 rfl rfl rfl ⟨rfl, rfl, Nat.le_of_ble_eq_true rfl, Nat.le_of_ble_eq_true rfl⟩ ⟨Nat.zero_le _, Nat.zero_le _⟩ (Nat.le_of_ble_eq_true rfl) dX7_passCommand_126 rfl rfl ?_
            refine J_aload_n (i := 0) (q := 0) (pc1 := 130) dX7_passCommand_129 rfl rfl rfl ?_
            refine J_aload_n (i := 0) (q := 0) (pc1 := 131) dX7_passCommand_130 rfl rfl rfl ?_
            obtain ⟨r28, μ29, hc27, h⟩ := gBd_s h
            refine J_callV (As := []) (ad := ad) (f := 0) (i := 0) (st := [.ref (ad 0 0)]) (st1 := [.int r28, .ref (ad 0 0)]) (pc1 := 134) (kX7_passNumber l D tc sa ad hI  μ26 r28 μ29 hc27) wcX7_passNumber wlX7_235 eR0 rfl rfl rfl ⟨rfl, rfl, Nat.le_of_ble_eq_true rfl, Nat.le_of_ble_eq_true rfl⟩ ⟨Nat.zero_le _, Nat.zero_le _⟩ (Nat.le_of_ble_eq_true rfl) dX7_passCommand_131 rfl rfl ?_
            refine J_putI (T := TX7) (pc1 := 137) eR0 rfl rfl inX7 tyX7 tyX7_ok nmX7 10 (by decide) rfl (fun _ _ _ _ => rfl) flX7_241 rfl rfl rfl rfl dX7_passCommand_134 rfl ?_
            obtain ⟨μ30, e31, h⟩ := gLet_s h
            rw [← e31]
            clear e31
            refine J_sub [0] (lv1 := [(0, .ref (ad 0 0))]) rfl ?_
            exact kj20 _ h
      · rw [if_neg q11] at h
        refine J_aload_n (i := 0) (q := 0) (pc1 := 83) dX7_passCommand_82 rfl rfl rfl ?_
        refine J_iconst (v := 1) (pc1 := 84) dX7_passCommand_83 (by decide) rfl ?_
        refine J_putI (T := TX7) (pc1 := 87) eR0 rfl rfl inX7 tyX7 tyX7_ok nmX7 11 (by decide) rfl (fun _ _ _ _ => rfl) flX7_206 rfl rfl (by decide) (by decide) dX7_passCommand_84 rfl ?_
        obtain ⟨μ32, e33, h⟩ := gLet_s h
        rw [← e33]
        clear e33
        refine J_aload_n (i := 0) (q := 0) (pc1 := 88) dX7_passCommand_87 rfl rfl rfl ?_
        refine J_iload_n (i := 1) (q := 1) (pc1 := 89) dX7_passCommand_88 rfl rfl rfl ?_
        refine J_putI (T := TX7) (pc1 := 92) eR0 rfl rfl inX7 tyX7 tyX7_ok nmX7 7 (by decide) rfl (fun _ _ _ _ => rfl) flX7_210 rfl rfl rfl rfl dX7_passCommand_89 rfl ?_
        obtain ⟨μ34, e35, h⟩ := gLet_s h
        rw [← e35]
        clear e35
        cases h
        exact J_vret hr hlk dX7_passCommand_92
    clear ej10
    refine J_sub [1, 2, 0] (lv1 := [(0, .ref (ad 0 0)), (1, .int x1), (2, .int 0)]) rfl ?_
    refine gFx2_s (P := fun x36 μ37 => JR p l e ({ frames := 5, cells := 0, slots := 0, locals := 115 } : Room) s m args below meth c cX7_passCommand 3 RX7 D tc sa ad sz (none) μ' μ37 36 [(0, .ref (ad 0 0)), (1, .int x1), (2, .int x36)] []) (fun rec38 ihrec38 x36 μ37 h => ?_) _ _ _ h
    try dsimp only at h
    refine J_iload_n (i := 2) (q := 2) (pc1 := 37) dX7_passCommand_36 rfl rfl rfl ?_
    refine J_bipush (v := 7) (pc1 := 39) dX7_passCommand_37 (by decide) rfl ?_
    refine J_icmp_ge (tgt := 75) (pc1 := 42) dX7_passCommand_39 (by decide) (fun q39 => ?_) rfl (fun q39 => ?_)
    · rw [if_pos q39] at h
      refine J_sub [0, 1] (lv1 := [(0, .ref (ad 0 0)), (1, .int x1)]) rfl ?_
      exact kj10 _ h
    · rw [if_neg q39] at h
      refine J_aload_n (i := 0) (q := 0) (pc1 := 43) dX7_passCommand_42 rfl rfl rfl ?_
      refine J_aload_n (i := 0) (q := 0) (pc1 := 44) dX7_passCommand_43 rfl rfl rfl ?_
      refine J_iload_n (i := 2) (q := 2) (pc1 := 45) dX7_passCommand_44 rfl rfl rfl ?_
      refine J_iload_n (i := 1) (q := 1) (pc1 := 46) dX7_passCommand_45 rfl rfl rfl ?_
      refine J_aload_n (i := 0) (q := 0) (pc1 := 47) dX7_passCommand_46 rfl rfl rfl ?_
      refine J_getI (T := TX7) (pc1 := 50) eR0 rfl rfl inX7 7 (by decide) rfl flX7_210 rfl dX7_passCommand_47 rfl ?_
      refine J_iload_n (i := 1) (q := 1) (pc1 := 51) dX7_passCommand_50 rfl rfl rfl ?_
      refine J_isub (pc1 := 52) dX7_passCommand_51 rfl ?_
      obtain ⟨r41, hc40, h⟩ := gBp_s h
      refine J_callV (As := [.int x36, .int x1, .int ((μ37 0 0 7) - x1)]) (ad := ad) (f := 0) (i := 0) (st := [.ref (ad 0 0)]) (st1 := [.int r41, .ref (ad 0 0)]) (pc1 := 55) (kX7_isWord l D tc sa ad hI x36 x1 ((μ37 0 0 7) - x1) μ37 r41 hc40) wcX7_isWord wlX7_228 eR0 rfl rfl rfl ⟨rfl, rfl, Nat.le_of_ble_eq_true rfl, Nat.le_of_ble_eq_true rfl⟩ ⟨Nat.zero_le _, Nat.zero_le _⟩ (Nat.le_of_ble_eq_true rfl) dX7_passCommand_52 rfl rfl ?_
      obtain ⟨x42, e43, h⟩ := gLet_s h
      have k44 : JR p l e ({ frames := 5, cells := 0, slots := 0, locals := 115 } : Room) s m args below meth c cX7_passCommand 3 RX7 D tc sa ad sz (none) μ' μ37 66 [(0, .ref (ad 0 0)), (1, .int x1), (2, .int x36)] [.int x42, .ref (ad 0 0)] := by
        refine J_putI (T := TX7) (pc1 := 69) eR0 rfl rfl inX7 tyX7 tyX7_ok nmX7 8 (by decide) rfl (fun _ _ _ _ => rfl) flX7_225 rfl rfl rfl rfl dX7_passCommand_66 rfl ?_
        obtain ⟨μ46, e47, h⟩ := gLet_s h
        rw [← e47]
        clear e47
        refine J_iinc (i := 2) (q := 2) (v := x36 + 1) (lv1 := [(2, .int (x36 + 1)), (0, .ref (ad 0 0)), (1, .int x1)]) (pc1 := 72) dX7_passCommand_69 rfl rfl (by decide) rfl rfl ?_
        refine J_goto (tgt := 36) dX7_passCommand_72 (by decide) ?_
        refine J_sub [1, 2, 0] (lv1 := [(0, .ref (ad 0 0)), (1, .int x1), (2, .int (x36 + 1))]) rfl ?_
        exact ihrec38 _ _ h
      refine J_if_eq (tgt := 62) (pc1 := 58) dX7_passCommand_55 (by decide) (fun q45 => ?_) rfl (fun q45 => ?_)
      · rw [if_pos q45] at e43
        subst e43
        refine J_aload_n (i := 0) (q := 0) (pc1 := 63) dX7_passCommand_62 rfl rfl rfl ?_
        refine J_getI (T := TX7) (pc1 := 66) eR0 rfl rfl inX7 8 (by decide) rfl flX7_225 rfl dX7_passCommand_63 rfl ?_
        exact k44
      · rw [if_neg q45] at e43
        subst e43
        refine J_iload_n (i := 2) (q := 2) (pc1 := 59) dX7_passCommand_58 rfl rfl rfl ?_
        refine J_goto (tgt := 66) dX7_passCommand_59 (by decide) ?_
        exact k44
  clear ej6
  refine J_sub [1, 0] (lv1 := [(0, .ref (ad 0 0)), (1, .int x1)]) rfl ?_
  refine gFx1_s (P := fun μ48 => JR p l e ({ frames := 5, cells := 0, slots := 0, locals := 115 } : Room) s m args below meth c cX7_passCommand 3 RX7 D tc sa ad sz (none) μ' μ48 5 [(0, .ref (ad 0 0)), (1, .int x1)] []) (fun rec49 ihrec49 μ48 h => ?_) _ _ h
  try dsimp only at h
  refine J_aload_n (i := 0) (q := 0) (pc1 := 6) dX7_passCommand_5 rfl rfl rfl ?_
  refine J_bipush (v := 97) (pc1 := 8) dX7_passCommand_6 (by decide) rfl ?_
  refine J_bipush (v := 122) (pc1 := 10) dX7_passCommand_8 (by decide) rfl ?_
  obtain ⟨r51, hc50, h⟩ := gBp_s h
  refine J_callV (As := [.int 97, .int 122]) (ad := ad) (f := 0) (i := 0) (st := []) (st1 := [.int r51]) (pc1 := 13) (kX7_sees l D tc sa ad hI 97 122 μ48 r51 hc50) wcX7_sees wlX7_213 eR0 rfl rfl rfl ⟨rfl, rfl, Nat.le_of_ble_eq_true rfl, Nat.le_of_ble_eq_true rfl⟩ ⟨Nat.zero_le _, Nat.zero_le _⟩ (Nat.le_of_ble_eq_true rfl) dX7_passCommand_10 rfl rfl ?_
  refine J_if_eq (tgt := 29) (pc1 := 16) dX7_passCommand_13 (by decide) (fun q52 => ?_) rfl (fun q52 => ?_)
  · rw [if_pos q52] at h
    exact kj6 _ h
  · rw [if_neg q52] at h
    refine J_aload_n (i := 0) (q := 0) (pc1 := 17) dX7_passCommand_16 rfl rfl rfl ?_
    refine J_dup (pc1 := 18) dX7_passCommand_17 rfl rfl ?_
    refine J_getI (T := TX7) (pc1 := 21) eR0 rfl rfl inX7 7 (by decide) rfl flX7_210 rfl dX7_passCommand_18 rfl ?_
    refine J_iconst (v := 1) (pc1 := 22) dX7_passCommand_21 (by decide) rfl ?_
    refine J_iadd (pc1 := 23) dX7_passCommand_22 rfl ?_
    refine J_putI (T := TX7) (pc1 := 26) eR0 rfl rfl inX7 tyX7 tyX7_ok nmX7 7 (by decide) rfl (fun _ _ _ _ => rfl) flX7_210 rfl rfl rfl rfl dX7_passCommand_23 rfl ?_
    obtain ⟨μ53, e54, h⟩ := gLet_s h
    rw [← e54]
    clear e54
    refine J_goto (tgt := 5) dX7_passCommand_26 (by decide) ?_
    exact ihrec49 _ h
def mX7_perform  (μ : gM) : Option (Int32 × gM) :=
  gLet (α := gM) (w3 μ 0 0 7 0) fun μ1 =>
  gLet (α := gM) (w3 μ1 0 0 11 0) fun μ3 =>
  gJon (fun (x5 : Int32) (μ6 : gM) =>
      gLet (α := gM) (w3 μ6 0 0 0 0) fun μ8 =>
      if (μ8 0 0 11) = 0 then
        gLet (α := gM) (w3 μ8 0 0 7 0) fun μ11 =>
        gJon (fun (μ13 : gM) =>
            gLet (α := gM) (w3 μ13 0 0 6 0) fun μ15 =>
            gLet (α := Int32) (if (μ15 0 0 0) = 0 then 0 else 1) fun x17 =>
            gBd (mX7_fails 1 x17 μ15) fun r22 μ23 =>
            gLet (α := Int32) (if r22 = 0 then x5 else 0) fun x24 =>
            some (x24, μ23)) fun j14 =>
        gFx2 (fun rec30 (x28 : Int32) (μ29 : gM) =>
            if x5 ≤ x28 then
              j14 μ29
            else
              if (μ29 0 0 0) = 0 then
                gBp (mX7_passCommand μ29) fun μ34 =>
                gBp (mX7_performCommand μ34) fun μ36 =>
                rec30 (x28 + 1) μ36
              else
                j14 μ29) 1000000 0 μ11
      else
        gLet (α := gM) (w3 μ8 0 0 6 0) fun μ37 =>
        gLet (α := Int32) ((-100) - (μ37 0 0 7)) fun x39 =>
        some (x39, μ37)) fun j7 =>
  gFx2 (fun rec45 (x43 : Int32) (μ44 : gM) =>
      gBp (mX7_passCommand μ44) fun μ47 =>
      if (μ47 0 0 11) = 0 then
        if (μ47 0 0 7) < (μ47 0 0 6) then
          rec45 (x43 + 1) μ47
        else
          j7 (x43 + 1) μ47
      else
        j7 (x43 + 1) μ47) 1000000 0 μ3
set_option maxHeartbeats 4000000 in
set_option maxRecDepth 100000 in
theorem kX7_perform (l : Launch) (D : va_G) (tc : Nat → ClassId) (sa : Nat → Nat) (ad : Nat → Nat → Nat) (hI : gI gE_R ad)  (μ : gM) (r : Int32) (μ' : gM) (h : mX7_perform  μ = some (r, μ')) : gMet l yX7_perform cX7_perform 3 (some .int) ({ frames := 13, cells := 0, slots := 0, locals := 291 } : Room) D gE_R gkd_R tc ad grh_R sa [.ref (ad 0 0)] μ (some (.int r)) μ' := by
  refine gMet_of hI ⟨by decide +kernel, Nat.le_of_ble_eq_true rfl⟩ (fun p e s m args below meth c sz hr hlk => ?_)
  unfold mX7_perform at h
  show JR p l e ({ frames := 13, cells := 0, slots := 0, locals := 291 } : Room) s m args below meth c cX7_perform 3 RX7 D tc sa ad sz (some (.int r)) μ' μ 0 [(0, .ref (ad 0 0))] []
  refine J_aload_n (i := 0) (q := 0) (pc1 := 1) dX7_perform_0 rfl rfl rfl ?_
  refine J_iconst (v := 0) (pc1 := 2) dX7_perform_1 (by decide) rfl ?_
  refine J_putI (T := TX7) (pc1 := 5) eR0 rfl rfl inX7 tyX7 tyX7_ok nmX7 7 (by decide) rfl (fun _ _ _ _ => rfl) flX7_210 rfl rfl rfl rfl dX7_perform_2 rfl ?_
  obtain ⟨μ1, e2, h⟩ := gLet_s h
  rw [← e2]
  clear e2
  refine J_aload_n (i := 0) (q := 0) (pc1 := 6) dX7_perform_5 rfl rfl rfl ?_
  refine J_iconst (v := 0) (pc1 := 7) dX7_perform_6 (by decide) rfl ?_
  refine J_putI (T := TX7) (pc1 := 10) eR0 rfl rfl inX7 tyX7 tyX7_ok nmX7 11 (by decide) rfl (fun _ _ _ _ => rfl) flX7_206 rfl rfl (by decide) (by decide) dX7_perform_7 rfl ?_
  obtain ⟨μ3, e4, h⟩ := gLet_s h
  rw [← e4]
  clear e4
  refine J_iconst (v := 0) (pc1 := 11) dX7_perform_10 (by decide) rfl ?_
  refine J_istore_n (i := 1) (lv1 := [(1, .int 0), (0, .ref (ad 0 0))]) (pc1 := 12) dX7_perform_11 rfl (by decide) rfl rfl ?_
  obtain ⟨j7, ej7, h⟩ := gJon_s h
  have kj7 : ∀ (x5 : Int32) (μ6 : gM), j7 x5 μ6 = some (r, μ') → JR p l e ({ frames := 13, cells := 0, slots := 0, locals := 291 } : Room) s m args below meth c cX7_perform 3 RX7 D tc sa ad sz (some (.int r)) μ' μ6 37 [(0, .ref (ad 0 0)), (1, .int x5)] [] := by
    intro x5 μ6 h
    rw [ej7] at h
    try dsimp only at h
    refine J_aload_n (i := 0) (q := 0) (pc1 := 38) dX7_perform_37 rfl rfl rfl ?_
    refine J_iconst (v := 0) (pc1 := 39) dX7_perform_38 (by decide) rfl ?_
    refine J_putI (T := TX7) (pc1 := 42) eR0 rfl rfl inX7 tyX7 tyX7_ok nmX7 0 (by decide) rfl (fun _ _ _ _ => rfl) flX7_30 rfl rfl rfl rfl dX7_perform_39 rfl ?_
    obtain ⟨μ8, e9, h⟩ := gLet_s h
    rw [← e9]
    clear e9
    refine J_aload_n (i := 0) (q := 0) (pc1 := 43) dX7_perform_42 rfl rfl rfl ?_
    refine J_getI (T := TX7) (pc1 := 46) eR0 rfl rfl inX7 11 (by decide) rfl flX7_206 rfl dX7_perform_43 rfl ?_
    refine J_if_eq (tgt := 62) (pc1 := 49) dX7_perform_46 (by decide) (fun q10 => ?_) rfl (fun q10 => ?_)
    · rw [if_pos q10] at h
      refine J_aload_n (i := 0) (q := 0) (pc1 := 63) dX7_perform_62 rfl rfl rfl ?_
      refine J_iconst (v := 0) (pc1 := 64) dX7_perform_63 (by decide) rfl ?_
      refine J_putI (T := TX7) (pc1 := 67) eR0 rfl rfl inX7 tyX7 tyX7_ok nmX7 7 (by decide) rfl (fun _ _ _ _ => rfl) flX7_210 rfl rfl rfl rfl dX7_perform_64 rfl ?_
      obtain ⟨μ11, e12, h⟩ := gLet_s h
      rw [← e12]
      clear e12
      refine J_iconst (v := 0) (pc1 := 68) dX7_perform_67 (by decide) rfl ?_
      refine J_istore_n (i := 2) (lv1 := [(2, .int 0), (0, .ref (ad 0 0)), (1, .int x5)]) (pc1 := 69) dX7_perform_68 rfl (by decide) rfl rfl ?_
      obtain ⟨j14, ej14, h⟩ := gJon_s h
      have kj14 : ∀ (μ13 : gM), j14 μ13 = some (r, μ') → JR p l e ({ frames := 13, cells := 0, slots := 0, locals := 291 } : Room) s m args below meth c cX7_perform 3 RX7 D tc sa ad sz (some (.int r)) μ' μ13 95 [(0, .ref (ad 0 0)), (1, .int x5)] [] := by
        intro μ13 h
        rw [ej14] at h
        try dsimp only at h
        refine J_aload_n (i := 0) (q := 0) (pc1 := 96) dX7_perform_95 rfl rfl rfl ?_
        refine J_iconst (v := 0) (pc1 := 97) dX7_perform_96 (by decide) rfl ?_
        refine J_putI (T := TX7) (pc1 := 100) eR0 rfl rfl inX7 tyX7 tyX7_ok nmX7 6 (by decide) rfl (fun _ _ _ _ => rfl) flX7_203 rfl rfl rfl rfl dX7_perform_97 rfl ?_
        obtain ⟨μ15, e16, h⟩ := gLet_s h
        rw [← e16]
        clear e16
        refine J_aload_n (i := 0) (q := 0) (pc1 := 101) dX7_perform_100 rfl rfl rfl ?_
        refine J_iconst (v := 1) (pc1 := 102) dX7_perform_101 (by decide) rfl ?_
        refine J_aload_n (i := 0) (q := 0) (pc1 := 103) dX7_perform_102 rfl rfl rfl ?_
        refine J_getI (T := TX7) (pc1 := 106) eR0 rfl rfl inX7 0 (by decide) rfl flX7_30 rfl dX7_perform_103 rfl ?_
        obtain ⟨x17, e18, h⟩ := gLet_s h
        have k19 : JR p l e ({ frames := 13, cells := 0, slots := 0, locals := 291 } : Room) s m args below meth c cX7_perform 3 RX7 D tc sa ad sz (some (.int r)) μ' μ15 114 [(0, .ref (ad 0 0)), (1, .int x5)] [.int x17, .int 1, .ref (ad 0 0)] := by
          obtain ⟨r22, μ23, hc21, h⟩ := gBd_s h
          refine J_callV (As := [.int 1, .int x17]) (ad := ad) (f := 0) (i := 0) (st := []) (st1 := [.int r22]) (pc1 := 117) (kX7_fails l D tc sa ad hI 1 x17 μ15 r22 μ23 hc21) wcX7_fails wlX7_55 eR0 rfl rfl rfl ⟨rfl, rfl, Nat.le_of_ble_eq_true rfl, Nat.le_of_ble_eq_true rfl⟩ ⟨Nat.zero_le _, Nat.zero_le _⟩ (Nat.le_of_ble_eq_true rfl) dX7_perform_114 rfl rfl ?_
          obtain ⟨x24, e25, h⟩ := gLet_s h
          have k26 : JR p l e ({ frames := 13, cells := 0, slots := 0, locals := 291 } : Room) s m args below meth c cX7_perform 3 RX7 D tc sa ad sz (some (.int r)) μ' μ23 125 [(0, .ref (ad 0 0)), (1, .int x5)] [.int x24] := by
            cases h
            exact J_iret hr hlk dX7_perform_125
          refine J_if_eq (tgt := 124) (pc1 := 120) dX7_perform_117 (by decide) (fun q27 => ?_) rfl (fun q27 => ?_)
          · rw [if_pos q27] at e25
            subst e25
            refine J_iload_n (i := 1) (q := 1) (pc1 := 125) dX7_perform_124 rfl rfl rfl ?_
            exact k26
          · rw [if_neg q27] at e25
            subst e25
            refine J_iconst (v := 0) (pc1 := 121) dX7_perform_120 (by decide) rfl ?_
            refine J_goto (tgt := 125) dX7_perform_121 (by decide) ?_
            exact k26
        refine J_if_eq (tgt := 113) (pc1 := 109) dX7_perform_106 (by decide) (fun q20 => ?_) rfl (fun q20 => ?_)
        · rw [if_pos q20] at e18
          subst e18
          refine J_iconst (v := 0) (pc1 := 114) dX7_perform_113 (by decide) rfl ?_
          exact k19
        · rw [if_neg q20] at e18
          subst e18
          refine J_iconst (v := 1) (pc1 := 110) dX7_perform_109 (by decide) rfl ?_
          refine J_goto (tgt := 114) dX7_perform_110 (by decide) ?_
          exact k19
      clear ej14
      refine J_sub [1, 2, 0] (lv1 := [(0, .ref (ad 0 0)), (1, .int x5), (2, .int 0)]) rfl ?_
      refine gFx2_s (P := fun x28 μ29 => JR p l e ({ frames := 13, cells := 0, slots := 0, locals := 291 } : Room) s m args below meth c cX7_perform 3 RX7 D tc sa ad sz (some (.int r)) μ' μ29 69 [(0, .ref (ad 0 0)), (1, .int x5), (2, .int x28)] []) (fun rec30 ihrec30 x28 μ29 h => ?_) _ _ _ h
      try dsimp only at h
      refine J_iload_n (i := 2) (q := 2) (pc1 := 70) dX7_perform_69 rfl rfl rfl ?_
      refine J_iload_n (i := 1) (q := 1) (pc1 := 71) dX7_perform_70 rfl rfl rfl ?_
      refine J_icmp_ge (tgt := 95) (pc1 := 74) dX7_perform_71 (by decide) (fun q31 => ?_) rfl (fun q31 => ?_)
      · rw [if_pos q31] at h
        refine J_sub [0, 1] (lv1 := [(0, .ref (ad 0 0)), (1, .int x5)]) rfl ?_
        exact kj14 _ h
      · rw [if_neg q31] at h
        refine J_aload_n (i := 0) (q := 0) (pc1 := 75) dX7_perform_74 rfl rfl rfl ?_
        refine J_getI (T := TX7) (pc1 := 78) eR0 rfl rfl inX7 0 (by decide) rfl flX7_30 rfl dX7_perform_75 rfl ?_
        refine J_if_ne (tgt := 95) (pc1 := 81) dX7_perform_78 (by decide) (fun q32 => ?_) rfl (fun q32 => ?_)
        · rw [if_neg q32] at h
          refine J_sub [0, 1] (lv1 := [(0, .ref (ad 0 0)), (1, .int x5)]) rfl ?_
          exact kj14 _ h
        · rw [if_pos q32] at h
          refine J_aload_n (i := 0) (q := 0) (pc1 := 82) dX7_perform_81 rfl rfl rfl ?_
          obtain ⟨μ34, hc33, h⟩ := gBp_s h
          refine J_callV (As := []) (ad := ad) (f := 0) (i := 0) (st := []) (st1 := []) (pc1 := 85) (kX7_passCommand l D tc sa ad hI  μ29 μ34 hc33) wcX7_passCommand wlX7_263 eR0 rfl rfl rfl ⟨rfl, rfl, Nat.le_of_ble_eq_true rfl, Nat.le_of_ble_eq_true rfl⟩ ⟨Nat.zero_le _, Nat.zero_le _⟩ (Nat.le_of_ble_eq_true rfl) dX7_perform_82 rfl rfl ?_
          refine J_aload_n (i := 0) (q := 0) (pc1 := 86) dX7_perform_85 rfl rfl rfl ?_
          obtain ⟨μ36, hc35, h⟩ := gBp_s h
          refine J_callV (As := []) (ad := ad) (f := 0) (i := 0) (st := []) (st1 := []) (pc1 := 89) (kX7_performCommand l D tc sa ad hI  μ34 μ36 hc35) wcX7_performCommand wlX7_266 eR0 rfl rfl rfl ⟨rfl, rfl, Nat.le_of_ble_eq_true rfl, Nat.le_of_ble_eq_true rfl⟩ ⟨Nat.zero_le _, Nat.zero_le _⟩ (Nat.le_of_ble_eq_true rfl) dX7_perform_86 rfl rfl ?_
          refine J_iinc (i := 2) (q := 2) (v := x28 + 1) (lv1 := [(2, .int (x28 + 1)), (0, .ref (ad 0 0)), (1, .int x5)]) (pc1 := 92) dX7_perform_89 rfl rfl (by decide) rfl rfl ?_
          refine J_goto (tgt := 69) dX7_perform_92 (by decide) ?_
          refine J_sub [1, 2, 0] (lv1 := [(0, .ref (ad 0 0)), (1, .int x5), (2, .int (x28 + 1))]) rfl ?_
          exact ihrec30 _ _ h
    · rw [if_neg q10] at h
      refine J_aload_n (i := 0) (q := 0) (pc1 := 50) dX7_perform_49 rfl rfl rfl ?_
      refine J_iconst (v := 0) (pc1 := 51) dX7_perform_50 (by decide) rfl ?_
      refine J_putI (T := TX7) (pc1 := 54) eR0 rfl rfl inX7 tyX7 tyX7_ok nmX7 6 (by decide) rfl (fun _ _ _ _ => rfl) flX7_203 rfl rfl rfl rfl dX7_perform_51 rfl ?_
      obtain ⟨μ37, e38, h⟩ := gLet_s h
      rw [← e38]
      clear e38
      refine J_bipush (v := (-100)) (pc1 := 56) dX7_perform_54 (by decide) rfl ?_
      refine J_aload_n (i := 0) (q := 0) (pc1 := 57) dX7_perform_56 rfl rfl rfl ?_
      refine J_getI (T := TX7) (pc1 := 60) eR0 rfl rfl inX7 7 (by decide) rfl flX7_210 rfl dX7_perform_57 rfl ?_
      refine J_isub (pc1 := 61) dX7_perform_60 rfl ?_
      obtain ⟨x39, e41, h⟩ := gLet_s h
      refine J_top (fun y40 e42 => ?_)
      have e42x : x39 = y40 := (e42.trans e41.symm).symm
      subst e42x
      cases h
      exact J_iret hr hlk dX7_perform_61
  clear ej7
  refine J_sub [1, 0] (lv1 := [(0, .ref (ad 0 0)), (1, .int 0)]) rfl ?_
  refine gFx2_s (P := fun x43 μ44 => JR p l e ({ frames := 13, cells := 0, slots := 0, locals := 291 } : Room) s m args below meth c cX7_perform 3 RX7 D tc sa ad sz (some (.int r)) μ' μ44 12 [(0, .ref (ad 0 0)), (1, .int x43)] []) (fun rec45 ihrec45 x43 μ44 h => ?_) _ _ _ h
  try dsimp only at h
  refine J_aload_n (i := 0) (q := 0) (pc1 := 13) dX7_perform_12 rfl rfl rfl ?_
  obtain ⟨μ47, hc46, h⟩ := gBp_s h
  refine J_callV (As := []) (ad := ad) (f := 0) (i := 0) (st := []) (st1 := []) (pc1 := 16) (kX7_passCommand l D tc sa ad hI  μ44 μ47 hc46) wcX7_passCommand wlX7_263 eR0 rfl rfl rfl ⟨rfl, rfl, Nat.le_of_ble_eq_true rfl, Nat.le_of_ble_eq_true rfl⟩ ⟨Nat.zero_le _, Nat.zero_le _⟩ (Nat.le_of_ble_eq_true rfl) dX7_perform_13 rfl rfl ?_
  refine J_iinc (i := 1) (q := 1) (v := x43 + 1) (lv1 := [(1, .int (x43 + 1)), (0, .ref (ad 0 0))]) (pc1 := 19) dX7_perform_16 rfl rfl (by decide) rfl rfl ?_
  refine J_aload_n (i := 0) (q := 1) (pc1 := 20) dX7_perform_19 rfl rfl rfl ?_
  refine J_getI (T := TX7) (pc1 := 23) eR0 rfl rfl inX7 11 (by decide) rfl flX7_206 rfl dX7_perform_20 rfl ?_
  refine J_if_ne (tgt := 37) (pc1 := 26) dX7_perform_23 (by decide) (fun q48 => ?_) rfl (fun q48 => ?_)
  · rw [if_neg q48] at h
    refine J_sub [1, 0] (lv1 := [(0, .ref (ad 0 0)), (1, .int (x43 + 1))]) rfl ?_
    exact kj7 _ _ h
  · rw [if_pos q48] at h
    refine J_aload_n (i := 0) (q := 1) (pc1 := 27) dX7_perform_26 rfl rfl rfl ?_
    refine J_getI (T := TX7) (pc1 := 30) eR0 rfl rfl inX7 7 (by decide) rfl flX7_210 rfl dX7_perform_27 rfl ?_
    refine J_aload_n (i := 0) (q := 1) (pc1 := 31) dX7_perform_30 rfl rfl rfl ?_
    refine J_getI (T := TX7) (pc1 := 34) eR0 rfl rfl inX7 6 (by decide) rfl flX7_203 rfl dX7_perform_31 rfl ?_
    refine J_icmp_lt (tgt := 12) (pc1 := 37) dX7_perform_34 (by decide) (fun q49 => ?_) rfl (fun q49 => ?_)
    · rw [if_pos q49] at h
      refine J_sub [1, 0] (lv1 := [(0, .ref (ad 0 0)), (1, .int (x43 + 1))]) rfl ?_
      exact ihrec45 _ _ h
    · rw [if_neg q49] at h
      refine J_sub [1, 0] (lv1 := [(0, .ref (ad 0 0)), (1, .int (x43 + 1))]) rfl ?_
      exact kj7 _ _ h
def mX7_share (a1 : Int32) (μ : gM) : Option (UInt64 × gM) :=
  gBp (mX7_isNode a1 μ) fun r2 =>
  gLet (α := Int32) (if r2 = 0 then 1 else 0) fun x3 =>
  gBd (mX7_fails 1 x3 μ) fun r8 μ9 =>
  if r8 = 0 then
    gBp (mX7_members a1 μ9) fun r12 =>
    gJon (fun (x13 : Int32) (x14 : Int32) =>
        gLet (α := Int32) (if x14 = 0 then 1 else 0) fun x16 =>
        gBd (mX7_fails 2 x16 μ9) fun r21 μ22 =>
        if r21 = 0 then
          gChk (FP.ddiv (FP.i2d x13) (FP.i2d x14) &&& 0x7fffffffffffffff ≤ 0x7ff0000000000000) <|
          some ((FP.ddiv (FP.i2d x13) (FP.i2d x14)), μ22)
        else
          some ((FP.dconst0), μ22)) fun j15 =>
    gFx3 (fun rec32 (x29 : Int32) (x30 : Int32) (x31 : Int32) =>
        if 5 ≤ x31 then
          j15 x29 x30
        else
          gBp (mX7_has r12 x31 μ9) fun r35 =>
          gJon (fun (x36 : Int32) =>
              gJon (fun (x38 : Int32) =>
                  gLet (α := Int32) (x29 + x38) fun x40 =>
                  gJon (fun (x44 : Int32) =>
                      gLet (α := Int32) (x30 + x44) fun x46 =>
                      rec32 x40 x46 (x31 + 1)) fun j45 =>
                  if x36 = 0 then
                    j45 0
                  else
                    gBp (mX7_last x31 μ9) fun r52 =>
                    j45 r52) fun j39 =>
              if x36 = 0 then
                j39 0
              else
                gBp (mX7_of x31 4 μ9) fun r55 =>
                j39 r55) fun j37 =>
          gJon (fun (u57 : Unit) =>
              j37 0) fun j56 =>
          if r35 = 0 then
            j56 () 
          else
            gBp (mX7_of x31 0 μ9) fun r60 =>
            gLet (α := Int32) (if r60 = 1 then 1 else 0) fun x61 =>
            gJon (fun (x65 : Int32) =>
                gLet (α := Int32) (x29 + x65) fun x67 =>
                gJon (fun (x71 : Int32) =>
                    gLet (α := Int32) (x30 + x71) fun x73 =>
                    rec32 x67 x73 (x31 + 1)) fun j72 =>
                if x61 = 0 then
                  j72 0
                else
                  gBp (mX7_last x31 μ9) fun r79 =>
                  j72 r79) fun j66 =>
            if x61 = 0 then
              j66 0
            else
              gBp (mX7_of x31 4 μ9) fun r82 =>
              j66 r82) 1000000 0 0 0
  else
    some ((FP.dconst0), μ9)
set_option maxHeartbeats 4000000 in
set_option maxRecDepth 100000 in
theorem kX7_share (l : Launch) (D : va_G) (tc : Nat → ClassId) (sa : Nat → Nat) (ad : Nat → Nat → Nat) (hI : gI gE_R ad) (a1 : Int32) (μ : gM) (r : UInt64) (μ' : gM) (h : mX7_share a1 μ = some (r, μ')) : gMet l yX7_share cX7_share 7 (some .double) ({ frames := 5, cells := 0, slots := 0, locals := 113 } : Room) D gE_R gkd_R tc ad grh_R sa [.ref (ad 0 0), .int a1] μ (some (.double r)) μ' := by
  refine gMet_of hI ⟨by decide +kernel, Nat.le_of_ble_eq_true rfl⟩ (fun p e s m args below meth c sz hr hlk => ?_)
  unfold mX7_share at h
  show JR p l e ({ frames := 5, cells := 0, slots := 0, locals := 113 } : Room) s m args below meth c cX7_share 7 RX7 D tc sa ad sz (some (.double r)) μ' μ 0 [(0, .ref (ad 0 0)), (1, .int a1)] []
  refine J_aload_n (i := 0) (q := 0) (pc1 := 1) dX7_share_0 rfl rfl rfl ?_
  refine J_iconst (v := 1) (pc1 := 2) dX7_share_1 (by decide) rfl ?_
  refine J_iload_n (i := 1) (q := 1) (pc1 := 3) dX7_share_2 rfl rfl rfl ?_
  obtain ⟨r2, hc1, h⟩ := gBp_s h
  refine J_callS (As := [.int a1]) (st := [.int 1, .ref (ad 0 0)]) (st1 := [.int r2, .int 1, .ref (ad 0 0)]) (pc1 := 6) (kX7_isNode l D tc sa ad hI a1 μ r2 hc1) wcX7_isNode wlX7_185 rfl ⟨rfl, rfl, Nat.le_of_ble_eq_true rfl, Nat.le_of_ble_eq_true rfl⟩ ⟨Nat.zero_le _, Nat.zero_le _⟩ (Nat.le_of_ble_eq_true rfl) dX7_share_3 rfl rfl ?_
  obtain ⟨x3, e4, h⟩ := gLet_s h
  have k5 : JR p l e ({ frames := 5, cells := 0, slots := 0, locals := 113 } : Room) s m args below meth c cX7_share 7 RX7 D tc sa ad sz (some (.double r)) μ' μ 14 [(0, .ref (ad 0 0)), (1, .int a1)] [.int x3, .int 1, .ref (ad 0 0)] := by
    obtain ⟨r8, μ9, hc7, h⟩ := gBd_s h
    refine J_callV (As := [.int 1, .int x3]) (ad := ad) (f := 0) (i := 0) (st := []) (st1 := [.int r8]) (pc1 := 17) (kX7_fails l D tc sa ad hI 1 x3 μ r8 μ9 hc7) wcX7_fails wlX7_55 eR0 rfl rfl rfl ⟨rfl, rfl, Nat.le_of_ble_eq_true rfl, Nat.le_of_ble_eq_true rfl⟩ ⟨Nat.zero_le _, Nat.zero_le _⟩ (Nat.le_of_ble_eq_true rfl) dX7_share_14 rfl rfl ?_
    refine J_if_eq (tgt := 22) (pc1 := 20) dX7_share_17 (by decide) (fun q10 => ?_) rfl (fun q10 => ?_)
    · rw [if_pos q10] at h
      refine J_aload_n (i := 0) (q := 0) (pc1 := 23) dX7_share_22 rfl rfl rfl ?_
      refine J_iload_n (i := 1) (q := 1) (pc1 := 24) dX7_share_23 rfl rfl rfl ?_
      obtain ⟨r12, hc11, h⟩ := gBp_s h
      refine J_callV (As := [.int a1]) (ad := ad) (f := 0) (i := 0) (st := []) (st1 := [.int r12]) (pc1 := 27) (kX7_members l D tc sa ad hI a1 μ9 r12 hc11) wcX7_members wlX7_108 eR0 rfl rfl rfl ⟨rfl, rfl, Nat.le_of_ble_eq_true rfl, Nat.le_of_ble_eq_true rfl⟩ ⟨Nat.zero_le _, Nat.zero_le _⟩ (Nat.le_of_ble_eq_true rfl) dX7_share_24 rfl rfl ?_
      refine J_istore_n (i := 2) (lv1 := [(2, .int r12), (0, .ref (ad 0 0)), (1, .int a1)]) (pc1 := 28) dX7_share_27 rfl (by decide) rfl rfl ?_
      refine J_iconst (v := 0) (pc1 := 29) dX7_share_28 (by decide) rfl ?_
      refine J_istore_n (i := 3) (lv1 := [(3, .int 0), (2, .int r12), (0, .ref (ad 0 0)), (1, .int a1)]) (pc1 := 30) dX7_share_29 rfl (by decide) rfl rfl ?_
      refine J_iconst (v := 0) (pc1 := 31) dX7_share_30 (by decide) rfl ?_
      refine J_istore (i := 4) (lv1 := [(4, .int 0), (3, .int 0), (2, .int r12), (0, .ref (ad 0 0)), (1, .int a1)]) (pc1 := 33) dX7_share_31 (by decide) rfl rfl ?_
      refine J_iconst (v := 0) (pc1 := 34) dX7_share_33 (by decide) rfl ?_
      refine J_istore (i := 5) (lv1 := [(5, .int 0), (4, .int 0), (3, .int 0), (2, .int r12), (0, .ref (ad 0 0)), (1, .int a1)]) (pc1 := 36) dX7_share_34 (by decide) rfl rfl ?_
      obtain ⟨j15, ej15, h⟩ := gJon_s h
      have kj15 : ∀ (x13 : Int32) (x14 : Int32), j15 x13 x14 = some (r, μ') → JR p l e ({ frames := 5, cells := 0, slots := 0, locals := 113 } : Room) s m args below meth c cX7_share 7 RX7 D tc sa ad sz (some (.double r)) μ' μ9 114 [(0, .ref (ad 0 0)), (3, .int x13), (4, .int x14)] [] := by
        intro x13 x14 h
        rw [ej15] at h
        try dsimp only at h
        refine J_aload_n (i := 0) (q := 0) (pc1 := 115) dX7_share_114 rfl rfl rfl ?_
        refine J_iconst (v := 2) (pc1 := 116) dX7_share_115 (by decide) rfl ?_
        refine J_iload (i := 4) (q := 2) (pc1 := 118) dX7_share_116 rfl rfl ?_
        obtain ⟨x16, e17, h⟩ := gLet_s h
        have k18 : JR p l e ({ frames := 5, cells := 0, slots := 0, locals := 113 } : Room) s m args below meth c cX7_share 7 RX7 D tc sa ad sz (some (.double r)) μ' μ9 126 [(0, .ref (ad 0 0)), (3, .int x13), (4, .int x14)] [.int x16, .int 2, .ref (ad 0 0)] := by
          obtain ⟨r21, μ22, hc20, h⟩ := gBd_s h
          refine J_callV (As := [.int 2, .int x16]) (ad := ad) (f := 0) (i := 0) (st := []) (st1 := [.int r21]) (pc1 := 129) (kX7_fails l D tc sa ad hI 2 x16 μ9 r21 μ22 hc20) wcX7_fails wlX7_55 eR0 rfl rfl rfl ⟨rfl, rfl, Nat.le_of_ble_eq_true rfl, Nat.le_of_ble_eq_true rfl⟩ ⟨Nat.zero_le _, Nat.zero_le _⟩ (Nat.le_of_ble_eq_true rfl) dX7_share_126 rfl rfl ?_
          refine J_if_eq (tgt := 136) (pc1 := 132) dX7_share_129 (by decide) (fun q23 => ?_) rfl (fun q23 => ?_)
          · rw [if_pos q23] at h
            refine J_iload_n (i := 3) (q := 1) (pc1 := 137) dX7_share_136 rfl rfl rfl ?_
            refine J_i2d (pc1 := 138) dX7_share_137 rfl ?_
            refine J_iload (i := 4) (q := 2) (pc1 := 140) dX7_share_138 rfl rfl ?_
            refine J_i2d (pc1 := 141) dX7_share_140 rfl ?_
            obtain ⟨h24, h⟩ := gChk_s h
            refine J_ddiv (pc1 := 142) dX7_share_141 h24 rfl ?_
            simp only [Option.some.injEq, Sum.inr.injEq, Prod.mk.injEq, reduceCtorEq] at h
            obtain ⟨h8, h9⟩ := h
            subst h8
            subst h9
            exact J_dret hr hlk dX7_share_142
          · rw [if_neg q23] at h
            refine J_dconst0 (pc1 := 133) dX7_share_132 rfl ?_
            refine J_goto (tgt := 142) dX7_share_133 (by decide) ?_
            simp only [Option.some.injEq, Sum.inr.injEq, Prod.mk.injEq, reduceCtorEq] at h
            obtain ⟨h8, h9⟩ := h
            subst h8
            subst h9
            exact J_dret hr hlk dX7_share_142
        refine J_if_ne (tgt := 125) (pc1 := 121) dX7_share_118 (by decide) (fun q19 => ?_) rfl (fun q19 => ?_)
        · rw [if_neg q19] at e17
          subst e17
          refine J_iconst (v := 0) (pc1 := 126) dX7_share_125 (by decide) rfl ?_
          exact k18
        · rw [if_pos q19] at e17
          subst e17
          refine J_iconst (v := 1) (pc1 := 122) dX7_share_121 (by decide) rfl ?_
          refine J_goto (tgt := 126) dX7_share_122 (by decide) ?_
          exact k18
      clear ej15
      refine J_sub [4, 3, 2, 1, 0] (lv1 := [(0, .ref (ad 0 0)), (2, .int r12), (3, .int 0), (4, .int 0), (5, .int 0)]) rfl ?_
      refine gFx3_s (P := fun x29 x30 x31 => JR p l e ({ frames := 5, cells := 0, slots := 0, locals := 113 } : Room) s m args below meth c cX7_share 7 RX7 D tc sa ad sz (some (.double r)) μ' μ9 36 [(0, .ref (ad 0 0)), (2, .int r12), (3, .int x29), (4, .int x30), (5, .int x31)] []) (fun rec32 ihrec32 x29 x30 x31 h => ?_) _ _ _ _ h
      try dsimp only at h
      refine J_iload (i := 5) (q := 4) (pc1 := 38) dX7_share_36 rfl rfl ?_
      refine J_iconst (v := 5) (pc1 := 39) dX7_share_38 (by decide) rfl ?_
      refine J_icmp_ge (tgt := 114) (pc1 := 42) dX7_share_39 (by decide) (fun q33 => ?_) rfl (fun q33 => ?_)
      · rw [if_pos q33] at h
        refine J_sub [0, 2, 3] (lv1 := [(0, .ref (ad 0 0)), (3, .int x29), (4, .int x30)]) rfl ?_
        exact kj15 _ _ h
      · rw [if_neg q33] at h
        refine J_iload_n (i := 2) (q := 1) (pc1 := 43) dX7_share_42 rfl rfl rfl ?_
        refine J_iload (i := 5) (q := 4) (pc1 := 45) dX7_share_43 rfl rfl ?_
        obtain ⟨r35, hc34, h⟩ := gBp_s h
        refine J_callS (As := [.int r12, .int x31]) (st := []) (st1 := [.int r35]) (pc1 := 48) (kX7_has l D tc sa ad hI r12 x31 μ9 r35 hc34) wcX7_has wlX7_89 rfl ⟨rfl, rfl, Nat.le_of_ble_eq_true rfl, Nat.le_of_ble_eq_true rfl⟩ ⟨Nat.zero_le _, Nat.zero_le _⟩ (Nat.le_of_ble_eq_true rfl) dX7_share_45 rfl rfl ?_
        obtain ⟨j37, ej37, h⟩ := gJon_s h
        have kj37 : ∀ (x36 : Int32), j37 x36 = some (r, μ') → JR p l e ({ frames := 5, cells := 0, slots := 0, locals := 113 } : Room) s m args below meth c cX7_share 7 RX7 D tc sa ad sz (some (.double r)) μ' μ9 67 [(0, .ref (ad 0 0)), (2, .int r12), (3, .int x29), (4, .int x30), (5, .int x31)] [.int x36] := by
          intro x36 h
          rw [ej37] at h
          try dsimp only at h
          refine J_istore (i := 6) (lv1 := [(6, .int x36), (0, .ref (ad 0 0)), (2, .int r12), (3, .int x29), (4, .int x30), (5, .int x31)]) (pc1 := 69) dX7_share_67 (by decide) rfl rfl ?_
          refine J_iload_n (i := 3) (q := 3) (pc1 := 70) dX7_share_69 rfl rfl rfl ?_
          refine J_iload (i := 6) (q := 0) (pc1 := 72) dX7_share_70 rfl rfl ?_
          obtain ⟨j39, ej39, h⟩ := gJon_s h
          have kj39 : ∀ (x38 : Int32), j39 x38 = some (r, μ') → JR p l e ({ frames := 5, cells := 0, slots := 0, locals := 113 } : Room) s m args below meth c cX7_share 7 RX7 D tc sa ad sz (some (.double r)) μ' μ9 86 [(0, .ref (ad 0 0)), (2, .int r12), (4, .int x30), (5, .int x31), (6, .int x36)] [.int x38, .int x29] := by
            intro x38 h
            rw [ej39] at h
            try dsimp only at h
            refine J_iadd (pc1 := 87) dX7_share_86 rfl ?_
            obtain ⟨x40, e42, h⟩ := gLet_s h
            refine J_top (fun y41 e43 => ?_)
            have e43x : x40 = y41 := (e43.trans e42.symm).symm
            subst e43x
            refine J_istore_n (i := 3) (lv1 := [(3, .int x40), (0, .ref (ad 0 0)), (2, .int r12), (4, .int x30), (5, .int x31), (6, .int x36)]) (pc1 := 88) dX7_share_87 rfl (by decide) rfl rfl ?_
            refine J_iload (i := 4) (q := 3) (pc1 := 90) dX7_share_88 rfl rfl ?_
            refine J_iload (i := 6) (q := 5) (pc1 := 92) dX7_share_90 rfl rfl ?_
            obtain ⟨j45, ej45, h⟩ := gJon_s h
            have kj45 : ∀ (x44 : Int32), j45 x44 = some (r, μ') → JR p l e ({ frames := 5, cells := 0, slots := 0, locals := 113 } : Room) s m args below meth c cX7_share 7 RX7 D tc sa ad sz (some (.double r)) μ' μ9 105 [(0, .ref (ad 0 0)), (2, .int r12), (3, .int x40), (5, .int x31)] [.int x44, .int x30] := by
              intro x44 h
              rw [ej45] at h
              try dsimp only at h
              refine J_iadd (pc1 := 106) dX7_share_105 rfl ?_
              obtain ⟨x46, e48, h⟩ := gLet_s h
              refine J_top (fun y47 e49 => ?_)
              have e49x : x46 = y47 := (e49.trans e48.symm).symm
              subst e49x
              refine J_istore (i := 4) (lv1 := [(4, .int x46), (0, .ref (ad 0 0)), (2, .int r12), (3, .int x40), (5, .int x31)]) (pc1 := 108) dX7_share_106 (by decide) rfl rfl ?_
              refine J_iinc (i := 5) (q := 4) (v := x31 + 1) (lv1 := [(5, .int (x31 + 1)), (4, .int x46), (0, .ref (ad 0 0)), (2, .int r12), (3, .int x40)]) (pc1 := 111) dX7_share_108 rfl rfl (by decide) rfl rfl ?_
              refine J_goto (tgt := 36) dX7_share_111 (by decide) ?_
              refine J_sub [2, 3, 4, 1, 0] (lv1 := [(0, .ref (ad 0 0)), (2, .int r12), (3, .int x40), (4, .int x46), (5, .int (x31 + 1))]) rfl ?_
              exact ihrec32 _ _ _ h
            clear ej45
            refine J_if_eq (tgt := 104) (pc1 := 95) dX7_share_92 (by decide) (fun q50 => ?_) rfl (fun q50 => ?_)
            · rw [if_pos q50] at h
              refine J_iconst (v := 0) (pc1 := 105) dX7_share_104 (by decide) rfl ?_
              refine J_sub [1, 2, 0, 4] (lv1 := [(0, .ref (ad 0 0)), (2, .int r12), (3, .int x40), (5, .int x31)]) rfl ?_
              exact kj45 _ h
            · rw [if_neg q50] at h
              refine J_aload_n (i := 0) (q := 1) (pc1 := 96) dX7_share_95 rfl rfl rfl ?_
              refine J_iload (i := 5) (q := 4) (pc1 := 98) dX7_share_96 rfl rfl ?_
              obtain ⟨r52, hc51, h⟩ := gBp_s h
              refine J_callV (As := [.int x31]) (ad := ad) (f := 0) (i := 0) (st := [.int x30]) (st1 := [.int r52, .int x30]) (pc1 := 101) (kX7_last l D tc sa ad hI x31 μ9 r52 hc51) wcX7_last wlX7_67 eR0 rfl rfl rfl ⟨rfl, rfl, Nat.le_of_ble_eq_true rfl, Nat.le_of_ble_eq_true rfl⟩ ⟨Nat.zero_le _, Nat.zero_le _⟩ (Nat.le_of_ble_eq_true rfl) dX7_share_98 rfl rfl ?_
              refine J_goto (tgt := 105) dX7_share_101 (by decide) ?_
              refine J_sub [1, 2, 0, 4] (lv1 := [(0, .ref (ad 0 0)), (2, .int r12), (3, .int x40), (5, .int x31)]) rfl ?_
              exact kj45 _ h
          clear ej39
          refine J_if_eq (tgt := 85) (pc1 := 75) dX7_share_72 (by decide) (fun q53 => ?_) rfl (fun q53 => ?_)
          · rw [if_pos q53] at h
            refine J_iconst (v := 0) (pc1 := 86) dX7_share_85 (by decide) rfl ?_
            refine J_sub [1, 2, 4, 5, 0] (lv1 := [(0, .ref (ad 0 0)), (2, .int r12), (4, .int x30), (5, .int x31), (6, .int x36)]) rfl ?_
            exact kj39 _ h
          · rw [if_neg q53] at h
            refine J_aload_n (i := 0) (q := 1) (pc1 := 76) dX7_share_75 rfl rfl rfl ?_
            refine J_iload (i := 5) (q := 5) (pc1 := 78) dX7_share_76 rfl rfl ?_
            refine J_iconst (v := 4) (pc1 := 79) dX7_share_78 (by decide) rfl ?_
            obtain ⟨r55, hc54, h⟩ := gBp_s h
            refine J_callV (As := [.int x31, .int 4]) (ad := ad) (f := 0) (i := 0) (st := [.int x29]) (st1 := [.int r55, .int x29]) (pc1 := 82) (kX7_of l D tc sa ad hI x31 4 μ9 r55 hc54) wcX7_of wlX7_38 eR0 rfl rfl rfl ⟨rfl, rfl, Nat.le_of_ble_eq_true rfl, Nat.le_of_ble_eq_true rfl⟩ ⟨Nat.zero_le _, Nat.zero_le _⟩ (Nat.le_of_ble_eq_true rfl) dX7_share_79 rfl rfl ?_
            refine J_goto (tgt := 86) dX7_share_82 (by decide) ?_
            refine J_sub [1, 2, 4, 5, 0] (lv1 := [(0, .ref (ad 0 0)), (2, .int r12), (4, .int x30), (5, .int x31), (6, .int x36)]) rfl ?_
            exact kj39 _ h
        clear ej37
        obtain ⟨j56, ej56, h⟩ := gJon_s h
        have kj56 : ∀ (u57 : Unit), j56 u57 = some (r, μ') → JR p l e ({ frames := 5, cells := 0, slots := 0, locals := 113 } : Room) s m args below meth c cX7_share 7 RX7 D tc sa ad sz (some (.double r)) μ' μ9 66 [(0, .ref (ad 0 0)), (2, .int r12), (3, .int x29), (4, .int x30), (5, .int x31)] [] := by
          intro u57 h
          rw [ej56] at h
          try dsimp only at h
          refine J_iconst (v := 0) (pc1 := 67) dX7_share_66 (by decide) rfl ?_
          exact kj37 _ h
        clear ej56
        refine J_if_eq (tgt := 66) (pc1 := 51) dX7_share_48 (by decide) (fun q58 => ?_) rfl (fun q58 => ?_)
        · rw [if_pos q58] at h
          exact kj56 ()  h
        · rw [if_neg q58] at h
          refine J_aload_n (i := 0) (q := 0) (pc1 := 52) dX7_share_51 rfl rfl rfl ?_
          refine J_iload (i := 5) (q := 4) (pc1 := 54) dX7_share_52 rfl rfl ?_
          refine J_iconst (v := 0) (pc1 := 55) dX7_share_54 (by decide) rfl ?_
          obtain ⟨r60, hc59, h⟩ := gBp_s h
          refine J_callV (As := [.int x31, .int 0]) (ad := ad) (f := 0) (i := 0) (st := []) (st1 := [.int r60]) (pc1 := 58) (kX7_of l D tc sa ad hI x31 0 μ9 r60 hc59) wcX7_of wlX7_38 eR0 rfl rfl rfl ⟨rfl, rfl, Nat.le_of_ble_eq_true rfl, Nat.le_of_ble_eq_true rfl⟩ ⟨Nat.zero_le _, Nat.zero_le _⟩ (Nat.le_of_ble_eq_true rfl) dX7_share_55 rfl rfl ?_
          refine J_iconst (v := 1) (pc1 := 59) dX7_share_58 (by decide) rfl ?_
          obtain ⟨x61, e62, h⟩ := gLet_s h
          have k63 : JR p l e ({ frames := 5, cells := 0, slots := 0, locals := 113 } : Room) s m args below meth c cX7_share 7 RX7 D tc sa ad sz (some (.double r)) μ' μ9 67 [(0, .ref (ad 0 0)), (2, .int r12), (3, .int x29), (4, .int x30), (5, .int x31)] [.int x61] := by
            refine J_istore (i := 6) (lv1 := [(6, .int x61), (0, .ref (ad 0 0)), (2, .int r12), (3, .int x29), (4, .int x30), (5, .int x31)]) (pc1 := 69) dX7_share_67 (by decide) rfl rfl ?_
            refine J_iload_n (i := 3) (q := 3) (pc1 := 70) dX7_share_69 rfl rfl rfl ?_
            refine J_iload (i := 6) (q := 0) (pc1 := 72) dX7_share_70 rfl rfl ?_
            obtain ⟨j66, ej66, h⟩ := gJon_s h
            have kj66 : ∀ (x65 : Int32), j66 x65 = some (r, μ') → JR p l e ({ frames := 5, cells := 0, slots := 0, locals := 113 } : Room) s m args below meth c cX7_share 7 RX7 D tc sa ad sz (some (.double r)) μ' μ9 86 [(0, .ref (ad 0 0)), (2, .int r12), (4, .int x30), (5, .int x31), (6, .int x61)] [.int x65, .int x29] := by
              intro x65 h
              rw [ej66] at h
              try dsimp only at h
              refine J_iadd (pc1 := 87) dX7_share_86 rfl ?_
              obtain ⟨x67, e69, h⟩ := gLet_s h
              refine J_top (fun y68 e70 => ?_)
              have e70x : x67 = y68 := (e70.trans e69.symm).symm
              subst e70x
              refine J_istore_n (i := 3) (lv1 := [(3, .int x67), (0, .ref (ad 0 0)), (2, .int r12), (4, .int x30), (5, .int x31), (6, .int x61)]) (pc1 := 88) dX7_share_87 rfl (by decide) rfl rfl ?_
              refine J_iload (i := 4) (q := 3) (pc1 := 90) dX7_share_88 rfl rfl ?_
              refine J_iload (i := 6) (q := 5) (pc1 := 92) dX7_share_90 rfl rfl ?_
              obtain ⟨j72, ej72, h⟩ := gJon_s h
              have kj72 : ∀ (x71 : Int32), j72 x71 = some (r, μ') → JR p l e ({ frames := 5, cells := 0, slots := 0, locals := 113 } : Room) s m args below meth c cX7_share 7 RX7 D tc sa ad sz (some (.double r)) μ' μ9 105 [(0, .ref (ad 0 0)), (2, .int r12), (3, .int x67), (5, .int x31)] [.int x71, .int x30] := by
                intro x71 h
                rw [ej72] at h
                try dsimp only at h
                refine J_iadd (pc1 := 106) dX7_share_105 rfl ?_
                obtain ⟨x73, e75, h⟩ := gLet_s h
                refine J_top (fun y74 e76 => ?_)
                have e76x : x73 = y74 := (e76.trans e75.symm).symm
                subst e76x
                refine J_istore (i := 4) (lv1 := [(4, .int x73), (0, .ref (ad 0 0)), (2, .int r12), (3, .int x67), (5, .int x31)]) (pc1 := 108) dX7_share_106 (by decide) rfl rfl ?_
                refine J_iinc (i := 5) (q := 4) (v := x31 + 1) (lv1 := [(5, .int (x31 + 1)), (4, .int x73), (0, .ref (ad 0 0)), (2, .int r12), (3, .int x67)]) (pc1 := 111) dX7_share_108 rfl rfl (by decide) rfl rfl ?_
                refine J_goto (tgt := 36) dX7_share_111 (by decide) ?_
                refine J_sub [2, 3, 4, 1, 0] (lv1 := [(0, .ref (ad 0 0)), (2, .int r12), (3, .int x67), (4, .int x73), (5, .int (x31 + 1))]) rfl ?_
                exact ihrec32 _ _ _ h
              clear ej72
              refine J_if_eq (tgt := 104) (pc1 := 95) dX7_share_92 (by decide) (fun q77 => ?_) rfl (fun q77 => ?_)
              · rw [if_pos q77] at h
                refine J_iconst (v := 0) (pc1 := 105) dX7_share_104 (by decide) rfl ?_
                refine J_sub [1, 2, 0, 4] (lv1 := [(0, .ref (ad 0 0)), (2, .int r12), (3, .int x67), (5, .int x31)]) rfl ?_
                exact kj72 _ h
              · rw [if_neg q77] at h
                refine J_aload_n (i := 0) (q := 1) (pc1 := 96) dX7_share_95 rfl rfl rfl ?_
                refine J_iload (i := 5) (q := 4) (pc1 := 98) dX7_share_96 rfl rfl ?_
                obtain ⟨r79, hc78, h⟩ := gBp_s h
                refine J_callV (As := [.int x31]) (ad := ad) (f := 0) (i := 0) (st := [.int x30]) (st1 := [.int r79, .int x30]) (pc1 := 101) (kX7_last l D tc sa ad hI x31 μ9 r79 hc78) wcX7_last wlX7_67 eR0 rfl rfl rfl ⟨rfl, rfl, Nat.le_of_ble_eq_true rfl, Nat.le_of_ble_eq_true rfl⟩ ⟨Nat.zero_le _, Nat.zero_le _⟩ (Nat.le_of_ble_eq_true rfl) dX7_share_98 rfl rfl ?_
                refine J_goto (tgt := 105) dX7_share_101 (by decide) ?_
                refine J_sub [1, 2, 0, 4] (lv1 := [(0, .ref (ad 0 0)), (2, .int r12), (3, .int x67), (5, .int x31)]) rfl ?_
                exact kj72 _ h
            clear ej66
            refine J_if_eq (tgt := 85) (pc1 := 75) dX7_share_72 (by decide) (fun q80 => ?_) rfl (fun q80 => ?_)
            · rw [if_pos q80] at h
              refine J_iconst (v := 0) (pc1 := 86) dX7_share_85 (by decide) rfl ?_
              refine J_sub [1, 2, 4, 5, 0] (lv1 := [(0, .ref (ad 0 0)), (2, .int r12), (4, .int x30), (5, .int x31), (6, .int x61)]) rfl ?_
              exact kj66 _ h
            · rw [if_neg q80] at h
              refine J_aload_n (i := 0) (q := 1) (pc1 := 76) dX7_share_75 rfl rfl rfl ?_
              refine J_iload (i := 5) (q := 5) (pc1 := 78) dX7_share_76 rfl rfl ?_
              refine J_iconst (v := 4) (pc1 := 79) dX7_share_78 (by decide) rfl ?_
              obtain ⟨r82, hc81, h⟩ := gBp_s h
              refine J_callV (As := [.int x31, .int 4]) (ad := ad) (f := 0) (i := 0) (st := [.int x29]) (st1 := [.int r82, .int x29]) (pc1 := 82) (kX7_of l D tc sa ad hI x31 4 μ9 r82 hc81) wcX7_of wlX7_38 eR0 rfl rfl rfl ⟨rfl, rfl, Nat.le_of_ble_eq_true rfl, Nat.le_of_ble_eq_true rfl⟩ ⟨Nat.zero_le _, Nat.zero_le _⟩ (Nat.le_of_ble_eq_true rfl) dX7_share_79 rfl rfl ?_
              refine J_goto (tgt := 86) dX7_share_82 (by decide) ?_
              refine J_sub [1, 2, 4, 5, 0] (lv1 := [(0, .ref (ad 0 0)), (2, .int r12), (4, .int x30), (5, .int x31), (6, .int x61)]) rfl ?_
              exact kj66 _ h
          refine J_icmp_ne (tgt := 66) (pc1 := 62) dX7_share_59 (by decide) (fun q64 => ?_) rfl (fun q64 => ?_)
          · rw [if_neg q64] at e62
            subst e62
            refine J_iconst (v := 0) (pc1 := 67) dX7_share_66 (by decide) rfl ?_
            exact k63
          · rw [if_pos q64] at e62
            subst e62
            refine J_iconst (v := 1) (pc1 := 63) dX7_share_62 (by decide) rfl ?_
            refine J_goto (tgt := 67) dX7_share_63 (by decide) ?_
            exact k63
    · rw [if_neg q10] at h
      refine J_dconst0 (pc1 := 21) dX7_share_20 rfl ?_
      simp only [Option.some.injEq, Sum.inr.injEq, Prod.mk.injEq, reduceCtorEq] at h
      obtain ⟨h8, h9⟩ := h
      subst h8
      subst h9
      exact J_dret hr hlk dX7_share_21
  refine J_if_ne (tgt := 13) (pc1 := 9) dX7_share_6 (by decide) (fun q6 => ?_) rfl (fun q6 => ?_)
  · rw [if_neg q6] at e4
    subst e4
    refine J_iconst (v := 0) (pc1 := 14) dX7_share_13 (by decide) rfl ?_
    exact k5
  · rw [if_pos q6] at e4
    subst e4
    refine J_iconst (v := 1) (pc1 := 10) dX7_share_9 (by decide) rfl ?_
    refine J_goto (tgt := 14) dX7_share_10 (by decide) ?_
    exact k5
