/-! the constant texts: String.length, charAt as the JDK's code, over any world -/
theorem flJ0_38 : Cond.fieldLink RJ0 38 "java/lang/String" "COMPACT_STRINGS" "Z" ∈ BIG := bigT5 (i := 169) rfl rfl
theorem flJ0_1053 : Cond.fieldLink RJ0 1053 "jdk/internal/util/Preconditions" "SIOOBE_FORMATTER" "Ljava/util/function/BiFunction;" ∈ BIG := bigT5 (i := 184) rfl rfl
theorem flJ0_9 : Cond.fieldLink RJ0 9 "java/lang/String" "value" "[B" ∈ BIG := bigT6 (i := 186) rfl rfl
theorem flJ0_15 : Cond.fieldLink RJ0 15 "java/lang/String" "coder" "B" ∈ BIG := bigT6 (i := 187) rfl rfl
theorem wlJ0_335 : Cond.methodLink RJ0 335 yJ0_coder_7d493 ∈ BIG := bigT5 (i := 165) rfl rfl
theorem imJ0_coder_7d493 : Cond.instanceMethod yJ0_coder_7d493 ∈ BIG := bigT5 (i := 166) rfl rfl
theorem seJ0_coder_7d493 : Cond.selects yJ0_coder_7d493.cls yJ0_coder_7d493 yJ0_coder_7d493 ∈ BIG := bigT5 (i := 167) rfl rfl
theorem iniJ0 : Cond.initialized RJ0 ∈ BIG := bigT1 (i := 10) rfl rfl
theorem cdJ0_coder_7d493 : Cond.code yJ0_coder_7d493 cJ0_coder_7d493 1 (some .byte) ∈ BIG := bigT5 (i := 168) rfl rfl
theorem wcJ0_coder_7d493 : wCv yJ0_coder_7d493 cJ0_coder_7d493 1 (some .byte) 0 := ⟨⟨imJ0_coder_7d493, seJ0_coder_7d493, iniJ0, cdJ0_coder_7d493⟩, by decide +kernel⟩
theorem wlJ0_492 : Cond.methodLink RJ0 492 yJ0_isLatin1_aae02 ∈ BIG := bigT5 (i := 174) rfl rfl
theorem imJ0_isLatin1_aae02 : Cond.instanceMethod yJ0_isLatin1_aae02 ∈ BIG := bigT5 (i := 175) rfl rfl
theorem seJ0_isLatin1_aae02 : Cond.selects yJ0_isLatin1_aae02.cls yJ0_isLatin1_aae02 yJ0_isLatin1_aae02 ∈ BIG := bigT5 (i := 176) rfl rfl
theorem cdJ0_isLatin1_aae02 : Cond.code yJ0_isLatin1_aae02 cJ0_isLatin1_aae02 1 (some .boolean) ∈ BIG := bigT5 (i := 177) rfl rfl
theorem wcJ0_isLatin1_aae02 : wCv yJ0_isLatin1_aae02 cJ0_isLatin1_aae02 1 (some .boolean) 0 := ⟨⟨imJ0_isLatin1_aae02, seJ0_isLatin1_aae02, iniJ0, cdJ0_isLatin1_aae02⟩, by decide +kernel⟩
theorem wlJ0_495 : Cond.methodLink RJ0 495 yJ1_charAt_3b067 ∈ BIG := bigT5 (i := 178) rfl rfl
theorem stJ1_charAt_3b067 : Cond.static yJ1_charAt_3b067 ∈ BIG := bigT5 (i := 179) rfl rfl
theorem iniJ1 : Cond.initialized RJ1 ∈ BIG := bigT1 (i := 27) rfl rfl
theorem cdJ1_charAt_3b067 : Cond.code yJ1_charAt_3b067 cJ1_charAt_3b067 2 (some .char) ∈ BIG := bigT5 (i := 180) rfl rfl
theorem wcJ1_charAt_3b067 : wCs yJ1_charAt_3b067 cJ1_charAt_3b067 2 (some .char) 2 := ⟨⟨stJ1_charAt_3b067, iniJ1, cdJ1_charAt_3b067⟩, by decide +kernel⟩
theorem wlJ1_9 : Cond.methodLink RJ1 9 yJ0_checkIndex_df160 ∈ BIG := bigT5 (i := 181) rfl rfl
theorem stJ0_checkIndex_df160 : Cond.static yJ0_checkIndex_df160 ∈ BIG := bigT5 (i := 182) rfl rfl
theorem cdJ0_checkIndex_df160 : Cond.code yJ0_checkIndex_df160 cJ0_checkIndex_df160 2 (none) ∈ BIG := bigT5 (i := 183) rfl rfl
theorem wcJ0_checkIndex_df160 : wCs yJ0_checkIndex_df160 cJ0_checkIndex_df160 2 (none) 2 := ⟨⟨stJ0_checkIndex_df160, iniJ0, cdJ0_checkIndex_df160⟩, by decide +kernel⟩
theorem wlJ0_1059 : Cond.methodLink RJ0 1059 yJ3_checkIndex_8e157 ∈ BIG := bigT5 (i := 186) rfl rfl
theorem stJ3_checkIndex_8e157 : Cond.static yJ3_checkIndex_8e157 ∈ BIG := bigT5 (i := 187) rfl rfl
theorem iniJ3 : Cond.initialized RJ3 ∈ BIG := bigT1 (i := 28) rfl rfl
theorem cdJ3_checkIndex_8e157 : Cond.code yJ3_checkIndex_8e157 cJ3_checkIndex_8e157 3 (some .int) ∈ BIG := bigT5 (i := 188) rfl rfl
theorem wcJ3_checkIndex_8e157 : wCs yJ3_checkIndex_8e157 cJ3_checkIndex_8e157 3 (some .int) 3 := ⟨⟨stJ3_checkIndex_8e157, iniJ3, cdJ3_checkIndex_8e157⟩, by decide +kernel⟩
theorem imJ0_length_8abf5 : Cond.instanceMethod yJ0_length_8abf5 ∈ BIG := bigT5 (i := 162) rfl rfl
theorem seJ0_length_8abf5 : Cond.selects yJ0_length_8abf5.cls yJ0_length_8abf5 yJ0_length_8abf5 ∈ BIG := bigT5 (i := 163) rfl rfl
theorem cdJ0_length_8abf5 : Cond.code yJ0_length_8abf5 cJ0_length_8abf5 1 (some .int) ∈ BIG := bigT5 (i := 164) rfl rfl
theorem wcJ0_length_8abf5 : wCv yJ0_length_8abf5 cJ0_length_8abf5 1 (some .int) 0 := ⟨⟨imJ0_length_8abf5, seJ0_length_8abf5, iniJ0, cdJ0_length_8abf5⟩, by decide +kernel⟩
theorem imJ0_charAt_5068e : Cond.instanceMethod yJ0_charAt_5068e ∈ BIG := bigT5 (i := 171) rfl rfl
theorem seJ0_charAt_5068e : Cond.selects yJ0_charAt_5068e.cls yJ0_charAt_5068e yJ0_charAt_5068e ∈ BIG := bigT5 (i := 172) rfl rfl
theorem cdJ0_charAt_5068e : Cond.code yJ0_charAt_5068e cJ0_charAt_5068e 2 (some .char) ∈ BIG := bigT5 (i := 173) rfl rfl
theorem wcJ0_charAt_5068e : wCv yJ0_charAt_5068e cJ0_charAt_5068e 2 (some .char) 1 := ⟨⟨imJ0_charAt_5068e, seJ0_charAt_5068e, iniJ0, cdJ0_charAt_5068e⟩, by decide +kernel⟩
section JK
variable {p : Program} {l : Launch} {e : Env} {R : Room} {s : State} {m : MethodId} {args : Array Value} {below : List Frame} {meth : Method} {c : Code} {cc : ByteArray} {nL : Nat} {own : String} {D : va_G} {E : List (Nat × Nat)} {kd : Nat → gKd} {tc : Nat → ClassId} {ad : Nat → Nat → Nat} {rh : gRh} {sa : Nat → Nat} {A : Nat → Prop} {cells slots : Nat} {Q : State → Prop} {μ : gM} {pc : Nat} {lv : List (Nat × Value)} {st : List Value}
theorem J_strVal {w idx : Nat} (hw : 24 ≤ w ∧ w < 33) (hl : Cond.fieldLink own idx "java/lang/String" "value" "[B" ∈ BIG) (hdg : decode cc pc = .ok (.getfield idx, 3)) {pc1 : Nat} (hp : pc + 3 = pc1) (k : J p l e R s m args below meth c cc nL own D E kd tc ad rh sa A s.heap cells slots Q μ pc1 lv (.ref (sa (3 * w + 1)) :: st)) : J p l e R s m args below meth c cc nL own D E kd tc ad rh sa A s.heap cells slots Q μ pc lv (.ref (sa (3 * w)) :: st) := by
  subst hp
  exact fun H locs ls C hP hS hlv => vk_getf C.1 C.2.1 (C.2.2.2.2.2.1.2.2.2.1 w hw.1 hw.2).2.2.1 hS C.2.2.2.1 (C.2.2.2.2.1 _ hl) (fun _ h => h) hdg (k H locs ls C hP hS hlv)
theorem J_strCod {w idx : Nat} (hw : 24 ≤ w ∧ w < 33) (hl : Cond.fieldLink own idx "java/lang/String" "coder" "B" ∈ BIG) (hdg : decode cc pc = .ok (.getfield idx, 3)) {pc1 : Nat} (hp : pc + 3 = pc1) (k : J p l e R s m args below meth c cc nL own D E kd tc ad rh sa A s.heap cells slots Q μ pc1 lv (.int 0 :: st)) : J p l e R s m args below meth c cc nL own D E kd tc ad rh sa A s.heap cells slots Q μ pc lv (.ref (sa (3 * w)) :: st) := by
  subst hp
  exact fun H locs ls C hP hS hlv => vk_getf C.1 C.2.1 (C.2.2.2.2.2.1.2.2.2.1 w hw.1 hw.2).2.1 hS C.2.2.2.1 (C.2.2.2.2.1 _ hl) (fun _ h => h) hdg (k H locs ls C hP hS hlv)
theorem J_strLen {w : Nat} {v : Int32} (hw : 24 ≤ w ∧ w < 33) (hv : Int32.ofNat (jsB w).length = v) (hdg : decode cc pc = .ok (.arraylength, 1)) {pc1 : Nat} (hp : pc + 1 = pc1) (k : J p l e R s m args below meth c cc nL own D E kd tc ad rh sa A s.heap cells slots Q μ pc1 lv (.int v :: st)) : J p l e R s m args below meth c cc nL own D E kd tc ad rh sa A s.heap cells slots Q μ pc lv (.ref (sa (3 * w + 1)) :: st) := by
  subst hp
  exact fun H locs ls C hP hS hlv => va_tlen C.1 C.2.1 (C.2.2.2.2.2.1.2.2.2.1 w hw.1 hw.2).2.2.2 hS hv hdg (k H locs ls C hP hS hlv)
theorem J_strAt {w : Nat} {i : Int32} (hw : 24 ≤ w ∧ w < 33) (hin : vp_in i (jsB w).length) (hdg : decode cc pc = .ok (.baload, 1)) {pc1 : Nat} (hp : pc + 1 = pc1) (k : J p l e R s m args below meth c cc nL own D E kd tc ad rh sa A s.heap cells slots Q μ pc1 lv (.int ((jsB w).getD i.toNatClampNeg 0) :: st)) : J p l e R s m args below meth c cc nL own D E kd tc ad rh sa A s.heap cells slots Q μ pc lv (.int i :: .ref (sa (3 * w + 1)) :: st) := by
  subst hp
  exact fun H locs ls C hP hS hlv => va_tb C.1 C.2.1 (C.2.2.2.2.2.1.2.2.2.1 w hw.1 hw.2).2.2.2 hS hin rfl hdg (k H locs ls C hP hS hlv)
theorem J_compact {idx : Nat} (hl : Cond.fieldLink own idx "java/lang/String" "COMPACT_STRINGS" "Z" ∈ BIG) (hdg : decode cc pc = .ok (.getstatic idx, 3)) {pc1 : Nat} (hp : pc + 3 = pc1) (k : J p l e R s m args below meth c cc nL own D E kd tc ad rh sa A s.heap cells slots Q μ pc1 lv (.int 1 :: st)) : J p l e R s m args below meth c cc nL own D E kd tc ad rh sa A s.heap cells slots Q μ pc lv st := by
  subst hp
  exact fun H locs ls C hP hS hlv => va_gets C.1 C.2.1 C.2.2.2.2.2.1.2.2.2.2.2.2.1 hS C.2.2.2.1 (C.2.2.2.2.1 _ hl) (fun _ h => h) hdg (k H locs ls C hP hS hlv)
theorem J_sioobe {idx : Nat} (hl : Cond.fieldLink own idx "jdk/internal/util/Preconditions" "SIOOBE_FORMATTER" "Ljava/util/function/BiFunction;" ∈ BIG) (hdg : decode cc pc = .ok (.getstatic idx, 3)) {pc1 : Nat} (hp : pc + 3 = pc1) (k : ∀ v : Value, (v = .null ∨ ∃ t, v = .ref t) → J p l e R s m args below meth c cc nL own D E kd tc ad rh sa A s.heap cells slots Q μ pc1 lv (v :: st)) : J p l e R s m args below meth c cc nL own D E kd tc ad rh sa A s.heap cells slots Q μ pc lv st := by
  subst hp
  intro H locs ls C hP hS hlv
  rcases C.2.2.2.2.2.1.2.2.2.2.2.2.2.1 with hZ | ⟨t, hZ⟩
  · exact va_gets C.1 C.2.1 hZ hS C.2.2.2.1 (C.2.2.2.2.1 _ hl) (fun _ h => h) hdg (k _ (Or.inl rfl) H locs ls C hP hS hlv)
  · exact va_gets C.1 C.2.1 hZ hS C.2.2.2.1 (C.2.2.2.2.1 _ hl) (fun _ h => h) hdg (k _ (Or.inr ⟨t, rfl⟩) H locs ls C hP hS hlv)
theorem J_ldcS {i is : Nat} {tx : String} (hi : i < 33 ∧ jsO i = own ∧ jsI i = is ∧ jsT i = tx) (hdg : decode cc pc = .ok (.ldc is, 2)) {pc1 : Nat} (hp : pc + 2 = pc1) (k : J p l e R s m args below meth c cc nL own D E kd tc ad rh sa A s.heap cells slots Q μ pc1 lv (.ref (sa (3 * i)) :: st)) : J p l e R s m args below meth c cc nL own D E kd tc ad rh sa A s.heap cells slots Q μ pc lv st := by
  subst hp
  exact fun H locs ls C hP hS hl => va_ldcS C.1 C.2.1 C.2.2.2.1 (by have h9 := C.2.2.2.2.2.1.2.2.1 i hi.1; rw [hi.2.1, hi.2.2.1, hi.2.2.2] at h9; exact h9) hdg (k H locs ls C hP hS hl)
theorem J_i2d {x : Int32} (hdg : decode cc pc = .ok (.i2d, 1)) {pc1 : Nat} (hp : pc + 1 = pc1) (k : J p l e R s m args below meth c cc nL own D E kd tc ad rh sa A s.heap cells slots Q μ pc1 lv (.double (FP.i2d x) :: st)) : J p l e R s m args below meth c cc nL own D E kd tc ad rh sa A s.heap cells slots Q μ pc lv (.int x :: st) := by
  subst hp
  exact fun H locs ls C hP hS hl => lv_i2d C.1 C.2.1 hdg (k H locs ls C hP hS hl)
theorem J_ddiv {x y : UInt64} (hdg : decode cc pc = .ok (.ddiv, 1)) (hn : vf_n64 (FP.ddiv x y)) {pc1 : Nat} (hp : pc + 1 = pc1) (k : J p l e R s m args below meth c cc nL own D E kd tc ad rh sa A s.heap cells slots Q μ pc1 lv (.double (FP.ddiv x y) :: st)) : J p l e R s m args below meth c cc nL own D E kd tc ad rh sa A s.heap cells slots Q μ pc lv (.double y :: .double x :: st) := by
  subst hp
  exact fun H locs ls C hP hS hl => lv_ddiv C.1 C.2.1 hdg hn (k H locs ls C hP hS hl)
theorem J_dconst0 (hdg : decode cc pc = .ok (.dconst 0, 1)) {pc1 : Nat} (hp : pc + 1 = pc1) (k : J p l e R s m args below meth c cc nL own D E kd tc ad rh sa A s.heap cells slots Q μ pc1 lv (.double FP.dconst0 :: st)) : J p l e R s m args below meth c cc nL own D E kd tc ad rh sa A s.heap cells slots Q μ pc lv st := by
  subst hp
  exact fun H locs ls C hP hS hl => lv_dconst0 C.1 C.2.1 hdg (k H locs ls C hP hS hl)
theorem J_dret {sz : Nat} {v : UInt64} (hr : meth.sig.returnType = some .double) (hlk : meth.locks = false) (hdg : decode cc pc = .ok (.dreturn, 1)) : J p l e R s m args below meth c cc nL own D E kd tc ad rh sa (gA E ad sz) s.heap 0 0 (MQ below (gQ D E kd tc ad rh sz (some (.double v)) μ) args s 0 0 (gA E ad sz)) μ pc lv [.double v] := fun H locs ls C hP hS hl =>
  W.dret C.1 C.2.1 hr (fun t ht hW => ⟨rfl, by rw [ht]; exact hP, hS.F ht⟩) hS.2.2 hdg hlk
/-- a call on a constant text -/
theorem J_callK {y : MethodName} {bytes : ByteArray} {maxL n idx w : Nat} {ret : Option FieldType} {rm : Room} {As : List Value} {o : Option Value} {μ1 : gM} (hwk : 24 ≤ w ∧ w < 33) (hM : gMet l y bytes maxL ret rm D E kd tc ad rh sa (.ref (sa (3 * w)) :: As) μ o μ1) (hw : wCv y bytes maxL ret n) (hlk : Cond.methodLink own idx y ∈ BIG) (hc : y.cls = "java/lang/String") (hn : As.length = n) (hrm : rm.cells = 0 ∧ rm.slots = 0 ∧ rm.frames + 1 ≤ R.frames ∧ 8 + (maxL + 11) + rm.locals ≤ R.locals) (hf : cells ≤ R.cells ∧ slots ≤ R.slots) (hst : (st.map fun v => v.category).sum ≤ 8) (hdg : decode cc pc = .ok (.invokevirtual idx, 3)) {st1 : List Value} (hs : o.toList ++ st = st1) {pc1 : Nat} (hp : pc + 3 = pc1) (k : J p l e R s m args below meth c cc nL own D E kd tc ad rh sa A s.heap cells slots Q μ1 pc1 lv st1) : J p l e R s m args below meth c cc nL own D E kd tc ad rh sa A s.heap cells slots Q μ pc lv (As.reverse ++ .ref (sa (3 * w)) :: st) := fun H locs ls C hP hS hl => by
  subst hp
  subst hs
  have hG := gGood hw.1.2.2.2
  have hwd : ∀ w ∈ BIG, w.before args s = true := C.2.2.2.2.1
  have cw : CallW R s args own y.cls idx y bytes maxL ret (.code y bytes maxL ret :: BIG) rm 0 0 n := ⟨callB_of n hwd hG rfl hrm.1 hrm.2.1 (hwd _ hw.1.2.2.1) (hwd _ hlk) hw.2 hrm.2.2, hwd _ hw.1.1, hwd _ hw.1.2.1⟩
  have hO : va_O "java/lang/String" (sa (3 * w)) A s H := ((C.2.2.2.2.2.1.2.2.2.1 w hwk.1 hwk.2).1).kept hS.2.1
  obtain ⟨cell, o1, o2, o3, o4⟩ := hO
  exact J_back (gA_le (g_inA C) C.2.2.2.2.2.2.2 hS) (va_runV (As := As) (rest := st) ⟨C.1, C.2.1, C.2.2.1, C.2.2.2.1, hwd⟩ (hM H.size) cw ⟨gPc_blind, ⟨cell, o1, o2, by rw [hc]; exact o3⟩, fun U hU hW => ⟨rfl, by rw [hU], by rw [hU]; exact hP, gEV.call C.2.2.2.2.2.1 hS (gA_le (g_inA C) C.2.2.2.2.2.2.2 hS) hU hW⟩⟩ rfl hn hl.1 rfl (lv_room hst) hdg hf) hS hl C k
end JK
section KS
variable (l : Launch) (D : va_G) (E : List (Nat × Nat)) (kd : Nat → gKd) (tc : Nat → ClassId) (sa : Nat → Nat) (ad : Nat → Nat → Nat) (rh : gRh)
theorem gBr0 : narrow .byte (.int 0) = .int 0 := rfl
theorem kJ0_coder (hI : gI E ad) (μ : gM) {w : Nat} (hw : 24 ≤ w ∧ w < 33) : gMet l yJ0_coder_7d493 cJ0_coder_7d493 1 (some .byte) ({ frames := 0, cells := 0, slots := 0, locals := 0 } : Room) D E kd tc ad rh sa [.ref (sa (3 * w))] μ (some (.int 0)) μ := by
  refine gMet_of hI ⟨by decide +kernel, Nat.le_of_ble_eq_true rfl⟩ (fun p e s m args below meth c sz hr hlk => ?_)
  refine J_compact (own := RJ0) (pc1 := 3) flJ0_38 dJ0_coder_7d493_0 rfl ?_
  refine J_if_eq (tgt := 13) (pc1 := 6) dJ0_coder_7d493_3 (by decide) (fun q => absurd q (by decide)) rfl (fun q => ?_)
  refine J_aload_n (i := 0) (q := 0) (pc1 := 7) dJ0_coder_7d493_6 rfl rfl rfl ?_
  refine J_strCod (pc1 := 10) hw flJ0_15 dJ0_coder_7d493_7 rfl ?_
  refine J_goto (tgt := 14) dJ0_coder_7d493_10 (by decide) ?_
  exact fun H locs ls C hP hS hl => W.zret C.1 C.2.1 hr gBr0 (fun t ht hW => ⟨rfl, by rw [ht]; exact hP, hS.F ht⟩) hS.2.2 dJ0_coder_7d493_14 hlk
theorem kJ0_isLatin1 (hI : gI E ad) (μ : gM) {w : Nat} (hw : 24 ≤ w ∧ w < 33) : gMet l yJ0_isLatin1_aae02 cJ0_isLatin1_aae02 1 (some .boolean) ({ frames := 0, cells := 0, slots := 0, locals := 0 } : Room) D E kd tc ad rh sa [.ref (sa (3 * w))] μ (some (.int 1)) μ := by
  refine gMet_of hI ⟨by decide +kernel, Nat.le_of_ble_eq_true rfl⟩ (fun p e s m args below meth c sz hr hlk => ?_)
  refine J_compact (own := RJ0) (pc1 := 3) flJ0_38 dJ0_isLatin1_aae02_0 rfl ?_
  refine J_if_eq (tgt := 17) (pc1 := 6) dJ0_isLatin1_aae02_3 (by decide) (fun q => absurd q (by decide)) rfl (fun q => ?_)
  refine J_aload_n (i := 0) (q := 0) (pc1 := 7) dJ0_isLatin1_aae02_6 rfl rfl rfl ?_
  refine J_strCod (pc1 := 10) hw flJ0_15 dJ0_isLatin1_aae02_7 rfl ?_
  refine J_if_ne (tgt := 17) (pc1 := 13) dJ0_isLatin1_aae02_10 (by decide) (fun q => absurd rfl q) rfl (fun q => ?_)
  refine J_iconst (v := 1) (pc1 := 14) dJ0_isLatin1_aae02_13 (by decide) rfl ?_
  refine J_goto (tgt := 18) dJ0_isLatin1_aae02_14 (by decide) ?_
  exact J_zret (by decide) hr hlk dJ0_isLatin1_aae02_18
theorem kJ0_length (hI : gI E ad) (μ : gM) {w : Nat} (hw : 24 ≤ w ∧ w < 33) : gMet l yJ0_length_8abf5 cJ0_length_8abf5 1 (some .int) ({ frames := 1, cells := 0, slots := 0, locals := 20 } : Room) D E kd tc ad rh sa [.ref (sa (3 * w))] μ (some (.int (Int32.ofNat (jsB w).length))) μ := by
  refine gMet_of hI ⟨by decide +kernel, Nat.le_of_ble_eq_true rfl⟩ (fun p e s m args below meth c sz hr hlk => ?_)
  refine J_aload_n (i := 0) (q := 0) (pc1 := 1) dJ0_length_8abf5_0 rfl rfl rfl ?_
  refine J_strVal (own := RJ0) (pc1 := 4) hw flJ0_9 dJ0_length_8abf5_1 rfl ?_
  refine J_strLen (pc1 := 5) hw rfl dJ0_length_8abf5_4 rfl ?_
  refine J_aload_n (i := 0) (q := 0) (pc1 := 6) dJ0_length_8abf5_5 rfl rfl rfl ?_
  refine J_callK (As := []) (pc1 := 9) (st := [.int (Int32.ofNat (jsB w).length)]) (st1 := [.int 0, .int (Int32.ofNat (jsB w).length)]) hw (kJ0_coder l D E kd tc sa ad rh hI μ hw) wcJ0_coder_7d493 wlJ0_335 rfl rfl ⟨rfl, rfl, Nat.le_of_ble_eq_true rfl, Nat.le_of_ble_eq_true rfl⟩ ⟨Nat.zero_le _, Nat.zero_le _⟩ (Nat.le_of_ble_eq_true rfl) dJ0_length_8abf5_6 rfl rfl ?_
  refine J_ishr (pc1 := 10) dJ0_length_8abf5_9 rfl ?_
  rw [sb_shr0]
  exact J_iret hr hlk dJ0_length_8abf5_10
theorem kJ3_checkIndex (hI : gI E ad) (μ : gM) {i n : Int32} {v : Value} (h0 : ¬ i < 0) (h1 : i < n) (hv : v = .null ∨ ∃ t, v = .ref t) : gMet l yJ3_checkIndex_8e157 cJ3_checkIndex_8e157 3 (some .int) ({ frames := 0, cells := 0, slots := 0, locals := 0 } : Room) D E kd tc ad rh sa [.int i, .int n, v] μ (some (.int i)) μ := by
  have hcat : v.category = 1 := by rcases hv with rfl | ⟨t, rfl⟩ <;> rfl
  have hlen : (lg_sl [.int i, .int n, v]).length ≤ 3 := by rcases hv with rfl | ⟨t, rfl⟩ <;> exact Nat.le_of_ble_eq_true rfl
  refine gMet_of hI ⟨by decide +kernel, hlen⟩ (fun p e s m args below meth c sz hr hlk => ?_)
  refine J_iload_n (i := 0) (q := 0) (pc1 := 1) dJ3_checkIndex_8e157_0 rfl rfl rfl ?_
  refine J_if_lt (tgt := 9) (pc1 := 4) dJ3_checkIndex_8e157_1 (by decide) (fun q => absurd q h0) rfl (fun q => ?_)
  refine J_iload_n (i := 0) (q := 0) (pc1 := 5) dJ3_checkIndex_8e157_4 rfl rfl rfl ?_
  refine J_iload_n (i := 1) (q := 1) (pc1 := 6) dJ3_checkIndex_8e157_5 rfl rfl rfl ?_
  refine J_icmp_lt (tgt := 16) (pc1 := 9) dJ3_checkIndex_8e157_6 (by decide) (fun q => ?_) rfl (fun q => absurd h1 q)
  refine J_iload_n (i := 0) (q := 0) (pc1 := 17) dJ3_checkIndex_8e157_16 rfl rfl rfl ?_
  exact J_iret hr hlk dJ3_checkIndex_8e157_17
theorem kJ0_checkIndex (hI : gI E ad) (μ : gM) {i n : Int32} (h0 : ¬ i < 0) (h1 : i < n) : gMet l yJ0_checkIndex_df160 cJ0_checkIndex_df160 2 none ({ frames := 1, cells := 0, slots := 0, locals := 22 } : Room) D E kd tc ad rh sa [.int i, .int n] μ none μ := by
  refine gMet_of hI ⟨by decide +kernel, Nat.le_of_ble_eq_true rfl⟩ (fun p e s m args below meth c sz hr hlk => ?_)
  refine J_iload_n (i := 0) (q := 0) (pc1 := 1) dJ0_checkIndex_df160_0 rfl rfl rfl ?_
  refine J_iload_n (i := 1) (q := 1) (pc1 := 2) dJ0_checkIndex_df160_1 rfl rfl rfl ?_
  refine J_sioobe (own := RJ0) (pc1 := 5) flJ0_1053 dJ0_checkIndex_df160_2 rfl (fun v hv => ?_)
  refine J_callS (As := [.int i, .int n, v]) (pc1 := 8) (st := []) (st1 := [.int i]) (kJ3_checkIndex l D E kd tc sa ad rh hI μ h0 h1 hv) wcJ3_checkIndex_8e157 wlJ0_1059 rfl ⟨rfl, rfl, Nat.le_of_ble_eq_true rfl, Nat.le_of_ble_eq_true rfl⟩ ⟨Nat.zero_le _, Nat.zero_le _⟩ (Nat.le_of_ble_eq_true rfl) dJ0_checkIndex_df160_5 rfl rfl ?_
  refine J_pop (pc1 := 9) dJ0_checkIndex_df160_8 rfl rfl ?_
  exact J_vret hr hlk dJ0_checkIndex_df160_9
theorem kJ1_charAt (hI : gI E ad) (μ : gM) {w : Nat} {i : Int32} (hw : 24 ≤ w ∧ w < 33) (h0 : inb i (jsB w).length) (h1 : i < Int32.ofNat (jsB w).length) (hc : vp_nar .char (i2c ((jsB w).getD i.toNatClampNeg 0 &&& 255)) = i2c ((jsB w).getD i.toNatClampNeg 0 &&& 255)) : gMet l yJ1_charAt_3b067 cJ1_charAt_3b067 2 (some .char) ({ frames := 2, cells := 0, slots := 0, locals := 43 } : Room) D E kd tc ad rh sa [.ref (sa (3 * w + 1)), .int i] μ (some (.int (i2c ((jsB w).getD i.toNatClampNeg 0 &&& 255)))) μ := by
  refine gMet_of hI ⟨by decide +kernel, Nat.le_of_ble_eq_true rfl⟩ (fun p e s m args below meth c sz hr hlk => ?_)
  refine J_iload_n (i := 1) (q := 1) (pc1 := 1) dJ1_charAt_3b067_0 rfl rfl rfl ?_
  refine J_aload_n (i := 0) (q := 0) (pc1 := 2) dJ1_charAt_3b067_1 rfl rfl rfl ?_
  refine J_strLen (pc1 := 3) hw rfl dJ1_charAt_3b067_2 rfl ?_
  refine J_callS (own := RJ1) (As := [.int i, .int (Int32.ofNat (jsB w).length)]) (pc1 := 6) (st := []) (st1 := []) (kJ0_checkIndex l D E kd tc sa ad rh hI μ (fun q => h0 (Or.inl q)) h1) wcJ0_checkIndex_df160 wlJ1_9 rfl ⟨rfl, rfl, Nat.le_of_ble_eq_true rfl, Nat.le_of_ble_eq_true rfl⟩ ⟨Nat.zero_le _, Nat.zero_le _⟩ (Nat.le_of_ble_eq_true rfl) dJ1_charAt_3b067_3 rfl rfl ?_
  refine J_aload_n (i := 0) (q := 0) (pc1 := 7) dJ1_charAt_3b067_6 rfl rfl rfl ?_
  refine J_iload_n (i := 1) (q := 1) (pc1 := 8) dJ1_charAt_3b067_7 rfl rfl rfl ?_
  refine J_strAt (pc1 := 9) hw h0 dJ1_charAt_3b067_8 rfl ?_
  refine J_sipush (v := 255) (pc1 := 12) dJ1_charAt_3b067_9 (by decide) rfl ?_
  refine J_iand (pc1 := 13) dJ1_charAt_3b067_12 rfl ?_
  refine J_i2c (pc1 := 14) dJ1_charAt_3b067_13 rfl ?_
  exact J_cret hc hr hlk dJ1_charAt_3b067_14
theorem kJ0_charAt (hI : gI E ad) (μ : gM) {w : Nat} {i : Int32} (hw : 24 ≤ w ∧ w < 33) (h0 : inb i (jsB w).length) (h1 : i < Int32.ofNat (jsB w).length) (hc : vp_nar .char (i2c ((jsB w).getD i.toNatClampNeg 0 &&& 255)) = i2c ((jsB w).getD i.toNatClampNeg 0 &&& 255)) : gMet l yJ0_charAt_5068e cJ0_charAt_5068e 2 (some .char) ({ frames := 3, cells := 0, slots := 0, locals := 64 } : Room) D E kd tc ad rh sa [.ref (sa (3 * w)), .int i] μ (some (.int (i2c ((jsB w).getD i.toNatClampNeg 0 &&& 255)))) μ := by
  refine gMet_of hI ⟨by decide +kernel, Nat.le_of_ble_eq_true rfl⟩ (fun p e s m args below meth c sz hr hlk => ?_)
  refine J_aload_n (i := 0) (q := 0) (pc1 := 1) dJ0_charAt_5068e_0 rfl rfl rfl ?_
  refine J_callK (own := RJ0) (As := []) (pc1 := 4) (st := []) (st1 := [.int 1]) hw (kJ0_isLatin1 l D E kd tc sa ad rh hI μ hw) wcJ0_isLatin1_aae02 wlJ0_492 rfl rfl ⟨rfl, rfl, Nat.le_of_ble_eq_true rfl, Nat.le_of_ble_eq_true rfl⟩ ⟨Nat.zero_le _, Nat.zero_le _⟩ (Nat.le_of_ble_eq_true rfl) dJ0_charAt_5068e_1 rfl rfl ?_
  refine J_if_eq (tgt := 16) (pc1 := 7) dJ0_charAt_5068e_4 (by decide) (fun q => absurd q (by decide)) rfl (fun q => ?_)
  refine J_aload_n (i := 0) (q := 0) (pc1 := 8) dJ0_charAt_5068e_7 rfl rfl rfl ?_
  refine J_strVal (pc1 := 11) hw flJ0_9 dJ0_charAt_5068e_8 rfl ?_
  refine J_iload_n (i := 1) (q := 1) (pc1 := 12) dJ0_charAt_5068e_11 rfl rfl rfl ?_
  refine J_callS (As := [.ref (sa (3 * w + 1)), .int i]) (pc1 := 15) (st := []) (st1 := [.int (i2c ((jsB w).getD i.toNatClampNeg 0 &&& 255))]) (kJ1_charAt l D E kd tc sa ad rh hI μ hw h0 h1 hc) wcJ1_charAt_3b067 wlJ0_495 rfl ⟨rfl, rfl, Nat.le_of_ble_eq_true rfl, Nat.le_of_ble_eq_true rfl⟩ ⟨Nat.zero_le _, Nat.zero_le _⟩ (Nat.le_of_ble_eq_true rfl) dJ0_charAt_5068e_12 rfl rfl ?_
  exact J_cret hc hr hlk dJ0_charAt_5068e_15
end KS
