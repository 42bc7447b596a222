/-! Integer.stringSize -/
theorem flJ6_83 : Cond.fieldLink RJ6 83 "java/lang/Integer" "DigitOnes" "[B" ∈ BIG := bigT6 (i := 121) rfl rfl
theorem flJ6_87 : Cond.fieldLink RJ6 87 "java/lang/Integer" "DigitTens" "[B" ∈ BIG := bigT6 (i := 123) rfl rfl
theorem wlJ5_245 : Cond.methodLink RJ5 245 yJ6_stringSize_0f7a4 ∈ BIG := bigT6 (i := 115) rfl rfl
theorem stJ6_stringSize_0f7a4 : Cond.static yJ6_stringSize_0f7a4 ∈ BIG := bigT6 (i := 116) rfl rfl
theorem cdJ6_stringSize_0f7a4 : Cond.code yJ6_stringSize_0f7a4 cJ6_stringSize_0f7a4 4 (some .int) ∈ BIG := bigT6 (i := 117) rfl rfl
theorem wcJ6_stringSize_0f7a4 : wCs yJ6_stringSize_0f7a4 cJ6_stringSize_0f7a4 4 (some .int) 1 := ⟨⟨stJ6_stringSize_0f7a4, iniJ6, cdJ6_stringSize_0f7a4⟩, by decide +kernel⟩
theorem wlJ5_248 : Cond.methodLink RJ5 248 yJ6_getChars_ba4f3 ∈ BIG := bigT6 (i := 118) rfl rfl
theorem stJ6_getChars_ba4f3 : Cond.static yJ6_getChars_ba4f3 ∈ BIG := bigT6 (i := 119) rfl rfl
theorem cdJ6_getChars_ba4f3 : Cond.code yJ6_getChars_ba4f3 cJ6_getChars_ba4f3 7 (some .int) ∈ BIG := bigT6 (i := 120) rfl rfl
theorem wcJ6_getChars_ba4f3 : wCs yJ6_getChars_ba4f3 cJ6_getChars_ba4f3 7 (some .int) 3 := ⟨⟨stJ6_getChars_ba4f3, iniJ6, cdJ6_getChars_ba4f3⟩, by decide +kernel⟩
theorem wlJ4_53 : Cond.methodLink RJ4 53 yJ5_append_c97b9 ∈ BIG := bigT6 (i := 112) rfl rfl
theorem smJ5_append_c97b9 : Cond.sameMethod yJ5_append_c97b9.cls yJ5_append_c97b9.cls yJ5_append_c97b9.name yJ5_append_c97b9.desc ∈ BIG := bigT8 (i := 229) rfl rfl
theorem imJ5_append_c97b9 : Cond.instanceMethod yJ5_append_c97b9 ∈ BIG := bigT6 (i := 113) rfl rfl
theorem cdJ5_append_c97b9 : Cond.code yJ5_append_c97b9 cJ5_append_c97b9 4 (some (.object "java/lang/AbstractStringBuilder")) ∈ BIG := bigT6 (i := 114) rfl rfl
theorem wpJ4_53 : wCsu RJ4 53 yJ5_append_c97b9 cJ5_append_c97b9 4 (some (.object "java/lang/AbstractStringBuilder")) 1 := ⟨⟨wlJ4_53, smJ5_append_c97b9, spJ4, imJ5_append_c97b9, iniJ5, cdJ5_append_c97b9⟩, by decide +kernel⟩
section SB6r
variable {p : Program} {l : Launch} {e : Env} {R : Room} {s : State} {m : MethodId} {args : Array Value} {below : List Frame} {meth : Method} {c : Code} {cc : ByteArray} {nL : Nat} {own : String} {D : va_G} {E : List (Nat × Nat)} {kd : Nat → gKd} {tc : Nat → ClassId} {ad : Nat → Nat → Nat} {rh : gRh} {sa : Nat → Nat} {A : Nat → Prop} {cells slots : Nat} {Q : State → Prop} {μ : gM} {pc : Nat} {lv : List (Nat × Value)} {st : List Value}
theorem J_dOnes {idx : Nat} (hl : Cond.fieldLink own idx "java/lang/Integer" "DigitOnes" "[B" ∈ BIG) (hdg : decode cc pc = .ok (.getstatic idx, 3)) {pc1 : Nat} (hp : pc + 3 = pc1) (k : J p l e R s m args below meth c cc nL own D E kd tc ad rh sa A s.heap cells slots Q μ pc1 lv (.ref (sa 1000) :: st)) : J p l e R s m args below meth c cc nL own D E kd tc ad rh sa A s.heap cells slots Q μ pc lv st := by
  subst hp
  exact fun H locs ls C hP hS hlv => va_gets C.1 C.2.1 C.2.2.2.2.2.1.2.2.2.2.2.2.2.2.1.1 hS C.2.2.2.1 (C.2.2.2.2.1 _ hl) (fun _ h => h) hdg (k H locs ls C hP hS hlv)
theorem J_dTens {idx : Nat} (hl : Cond.fieldLink own idx "java/lang/Integer" "DigitTens" "[B" ∈ BIG) (hdg : decode cc pc = .ok (.getstatic idx, 3)) {pc1 : Nat} (hp : pc + 3 = pc1) (k : J p l e R s m args below meth c cc nL own D E kd tc ad rh sa A s.heap cells slots Q μ pc1 lv (.ref (sa 1001) :: st)) : J p l e R s m args below meth c cc nL own D E kd tc ad rh sa A s.heap cells slots Q μ pc lv st := by
  subst hp
  exact fun H locs ls C hP hS hlv => va_gets C.1 C.2.1 C.2.2.2.2.2.1.2.2.2.2.2.2.2.2.2.1.1 hS C.2.2.2.1 (C.2.2.2.2.1 _ hl) (fun _ h => h) hdg (k H locs ls C hP hS hlv)
theorem J_dOnesAt {j : Nat} {x : Int32} (hx : x = nI j) (hj : j < 100) (hdg : decode cc pc = .ok (.baload, 1)) {pc1 : Nat} (hp : pc + 1 = pc1) (k : J p l e R s m args below meth c cc nL own D E kd tc ad rh sa A s.heap cells slots Q μ pc1 lv (.int (nI (48 + j % 10)) :: st)) : J p l e R s m args below meth c cc nL own D E kd tc ad rh sa A s.heap cells slots Q μ pc lv (.int x :: .ref (sa 1000) :: st) := by
  subst hp; subst hx
  exact fun H locs ls C hP hS hlv => va_tb C.1 C.2.1 C.2.2.2.2.2.1.2.2.2.2.2.2.2.2.1.2 hS (vp_in_nI hj (by decide)) (by rw [nI_clamp (by omega)]) hdg (k H locs ls C hP hS hlv)
theorem J_dTensAt {j : Nat} {x : Int32} (hx : x = nI j) (hj : j < 100) (hdg : decode cc pc = .ok (.baload, 1)) {pc1 : Nat} (hp : pc + 1 = pc1) (k : J p l e R s m args below meth c cc nL own D E kd tc ad rh sa A s.heap cells slots Q μ pc1 lv (.int (nI (48 + j / 10)) :: st)) : J p l e R s m args below meth c cc nL own D E kd tc ad rh sa A s.heap cells slots Q μ pc lv (.int x :: .ref (sa 1001) :: st) := by
  subst hp; subst hx
  exact fun H locs ls C hP hS hlv => va_tb C.1 C.2.1 C.2.2.2.2.2.1.2.2.2.2.2.2.2.2.2.1.2 hS (vp_in_nI hj (by decide)) (by rw [nI_clamp (by omega)]) hdg (k H locs ls C hP hS hlv)
end SB6r
section SB6
variable (l : Launch) (D : va_G) (tc : Nat → ClassId) (sa : Nat → Nat)
theorem sb_dgK1 {v : Nat} (h2 : ¬ 10 ≤ v) : sb_dg v = 1 := by
  unfold sb_dg
  (repeat' split) <;> omega
theorem sb_dgK2 {v : Nat} (h : 10 ≤ v) (h2 : ¬ 100 ≤ v) : sb_dg v = 2 := by
  unfold sb_dg
  (repeat' split) <;> omega
theorem sb_dgK3 {v : Nat} (h : 100 ≤ v) (h2 : ¬ 1000 ≤ v) : sb_dg v = 3 := by
  unfold sb_dg
  (repeat' split) <;> omega
theorem sb_dgK4 {v : Nat} (h : 1000 ≤ v) (h2 : ¬ 10000 ≤ v) : sb_dg v = 4 := by
  unfold sb_dg
  (repeat' split) <;> omega
theorem sb_dgK5 {v : Nat} (h : 10000 ≤ v) (h2 : ¬ 100000 ≤ v) : sb_dg v = 5 := by
  unfold sb_dg
  (repeat' split) <;> omega
theorem sb_dgK6 {v : Nat} (h : 100000 ≤ v) (h2 : ¬ 1000000 ≤ v) : sb_dg v = 6 := by
  unfold sb_dg
  (repeat' split) <;> omega
theorem sb_dgK7 {v : Nat} (h : 1000000 ≤ v) (h2 : ¬ 10000000 ≤ v) : sb_dg v = 7 := by
  unfold sb_dg
  (repeat' split) <;> omega
theorem sb_dgK8 {v : Nat} (h : 10000000 ≤ v) (h2 : ¬ 100000000 ≤ v) : sb_dg v = 8 := by
  unfold sb_dg
  (repeat' split) <;> omega
theorem sb_dgK9 {v : Nat} (h : 100000000 ≤ v) (h2 : ¬ 1000000000 ≤ v) : sb_dg v = 9 := by
  unfold sb_dg
  (repeat' split) <;> omega
theorem sb_dgK10 {v : Nat} (h : 1000000000 ≤ v)  : sb_dg v = 10 := by
  unfold sb_dg
  (repeat' split) <;> omega
theorem sb_negTB {w : Nat} (h : w ≤ 2 ^ 31) : (-nI w).toInt = -(w : Int) := by
  by_cases e : w = 2 ^ 31
  · subst e
    decide +kernel
  · exact sb_negT (by omega)
theorem sb_nleB {a b : Nat} (ha : a ≤ 2 ^ 31) (hb : b ≤ 2 ^ 31) : -nI a ≤ -nI b ↔ b ≤ a := by
  rw [Int32.le_iff_toInt_le, sb_negTB ha, sb_negTB hb]
  omega
theorem sb_nltB {a b : Nat} (ha : a ≤ 2 ^ 31) (hb : b ≤ 2 ^ 31) : -nI a < -nI b ↔ b < a := by
  rw [Int32.lt_iff_toInt_lt, sb_negTB ha, sb_negTB hb]
  omega
theorem sb_nneg {v : Nat} (h0 : 0 < v) (hv : v ≤ 2 ^ 31) : -nI v < 0 := by
  rw [Int32.lt_iff_toInt_lt, sb_negTB hv, Int32.toInt_zero]
  omega
theorem sb_ndivB {w : Nat} (hw : w ≤ 2 ^ 31) : (-nI w) / 100 = -nI (w / 100) := by
  by_cases e : w = 2 ^ 31
  · subst e
    decide +kernel
  · exact sb_ndiv (by omega)
theorem sb_nremB {w : Nat} (hw : w ≤ 2 ^ 31) : (-nI (w / 100)) * 100 - (-nI w) = nI (w % 100) := by
  by_cases e : w = 2 ^ 31
  · subst e
    decide +kernel
  · exact sb_nrem (by omega)
theorem sb_dg100B {w : Nat} (h : 100 ≤ w) (hw : w ≤ 2 ^ 31) : sb_dg w = sb_dg (w / 100) + 2 := by
  by_cases e : w = 2 ^ 31
  · subst e
    decide +kernel
  · exact sb_dg100 h (by omega)
theorem kJ6_stringSize {E : List (Nat × Nat)} {kd : Nat → gKd} {ad : Nat → Nat → Nat} {rh : gRh} (hI : gI E ad) (μ : gM) {v : Nat} (hv : v < 2 ^ 31) : gMet l yJ6_stringSize_0f7a4 cJ6_stringSize_0f7a4 4 (some .int) ({ frames := 0, cells := 0, slots := 0, locals := 20 } : Room) D E kd tc ad rh sa [.int (nI v)] μ (some (.int (nI (sb_dg v + 0)))) μ := by
  have hvB : v ≤ 2 ^ 31 := Nat.le_of_lt hv
  refine gMet_of hI ⟨by decide +kernel, Nat.le_of_ble_eq_true rfl⟩ (fun p e s m args below meth c sz hr hlk => ?_)
  show J p l e ({ frames := 0, cells := 0, slots := 0, locals := 20 } : Room) s m args below meth c cJ6_stringSize_0f7a4 4 RJ6 D E kd tc ad rh sa (gA E ad sz) s.heap 0 0 _ μ 0 [(0, .int (nI v))] []
  refine J_iconst (v := 1) (pc1 := 1) dJ6_stringSize_0f7a4_0 (by decide) rfl ?_
  refine J_istore_n (i := 1) (lv1 := [(1, .int 1), (0, .int (nI v))]) (pc1 := 2) dJ6_stringSize_0f7a4_1 rfl (by decide) rfl rfl ?_
  refine J_iload_n (i := 0) (q := 1) (pc1 := 3) dJ6_stringSize_0f7a4_2 rfl rfl rfl ?_
  refine J_if_lt (tgt := 11) (pc1 := 6) dJ6_stringSize_0f7a4_3 (by decide) (fun qq => absurd qq (nI_pos hv)) rfl (fun qq => ?_)
  refine J_iconst (v := 0) (pc1 := 7) dJ6_stringSize_0f7a4_6 (by decide) rfl ?_
  refine J_istore_n (i := 1) (lv1 := [(1, .int 0), (0, .int (nI v))]) (pc1 := 8) dJ6_stringSize_0f7a4_7 rfl (by decide) rfl rfl ?_
  refine J_iload_n (i := 0) (q := 1) (pc1 := 9) dJ6_stringSize_0f7a4_8 rfl rfl rfl ?_
  refine J_ineg (pc1 := 10) dJ6_stringSize_0f7a4_9 rfl ?_
  refine J_istore_n (i := 0) (lv1 := [(0, .int (-(nI v))), (1, .int 0)]) (pc1 := 11) dJ6_stringSize_0f7a4_10 rfl (by decide) rfl rfl ?_
  refine J_bipush (v := (-10)) (pc1 := 13) dJ6_stringSize_0f7a4_11 (by decide) rfl ?_
  refine J_istore_n (i := 2) (lv1 := [(2, .int (-10)), (0, .int (-(nI v))), (1, .int 0)]) (pc1 := 14) dJ6_stringSize_0f7a4_13 rfl (by decide) rfl rfl ?_
  refine J_iconst (v := 1) (pc1 := 15) dJ6_stringSize_0f7a4_14 (by decide) rfl ?_
  refine J_istore_n (i := 3) (lv1 := [(3, .int 1), (2, .int (-10)), (0, .int (-(nI v))), (1, .int 0)]) (pc1 := 16) dJ6_stringSize_0f7a4_15 rfl (by decide) rfl rfl ?_
  refine J_iload_n (i := 3) (q := 0) (pc1 := 17) dJ6_stringSize_0f7a4_16 rfl rfl rfl ?_
  refine J_bipush (v := 10) (pc1 := 19) dJ6_stringSize_0f7a4_17 (by decide) rfl ?_
  refine J_icmp_ge (tgt := 42) (pc1 := 22) dJ6_stringSize_0f7a4_19 (by decide) (fun qq => absurd qq (by decide)) rfl (fun qq => ?_)
  refine J_iload_n (i := 0) (q := 2) (pc1 := 23) dJ6_stringSize_0f7a4_22 rfl rfl rfl ?_
  refine J_iload_n (i := 2) (q := 1) (pc1 := 24) dJ6_stringSize_0f7a4_23 rfl rfl rfl ?_
  refine J_icmp_le (tgt := 31) (pc1 := 27) dJ6_stringSize_0f7a4_24 (by decide) (fun q1 => ?_) rfl (fun q1 => ?_)
  rotate_left
  · refine J_iload_n (i := 3) (q := 0) (pc1 := 28) dJ6_stringSize_0f7a4_27 rfl rfl rfl ?_
    refine J_iload_n (i := 1) (q := 3) (pc1 := 29) dJ6_stringSize_0f7a4_28 rfl rfl rfl ?_
    refine J_iadd (pc1 := 30) dJ6_stringSize_0f7a4_29 rfl ?_
    refine J_eqI (y := nI (sb_dg v + 0)) (by rw [show sb_dg v = 1 from sb_dgK1 (fun z => q1 ((sb_nleB (a := v) (b := 10) hvB (by decide)).mpr z))]; decide) ?_
    exact J_iret hr hlk dJ6_stringSize_0f7a4_30
  refine J_bipush (v := 10) (pc1 := 33) dJ6_stringSize_0f7a4_31 (by decide) rfl ?_
  refine J_iload_n (i := 2) (q := 1) (pc1 := 34) dJ6_stringSize_0f7a4_33 rfl rfl rfl ?_
  refine J_imul (pc1 := 35) dJ6_stringSize_0f7a4_34 rfl ?_
  refine J_eqI (y := (-100)) (by decide) ?_
  refine J_istore_n (i := 2) (lv1 := [(2, .int (-100)), (3, .int 1), (0, .int (-(nI v))), (1, .int 0)]) (pc1 := 36) dJ6_stringSize_0f7a4_35 rfl (by decide) rfl rfl ?_
  refine J_iinc (q := 1) (v := 2) (lv1 := [(3, .int 2), (2, .int (-100)), (0, .int (-(nI v))), (1, .int 0)]) (pc1 := 39) dJ6_stringSize_0f7a4_36 rfl (by decide) (by decide) rfl rfl ?_
  refine J_goto (tgt := 16) dJ6_stringSize_0f7a4_39 (by decide) ?_
  refine J_iload_n (i := 3) (q := 0) (pc1 := 17) dJ6_stringSize_0f7a4_16 rfl rfl rfl ?_
  refine J_bipush (v := 10) (pc1 := 19) dJ6_stringSize_0f7a4_17 (by decide) rfl ?_
  refine J_icmp_ge (tgt := 42) (pc1 := 22) dJ6_stringSize_0f7a4_19 (by decide) (fun qq => absurd qq (by decide)) rfl (fun qq => ?_)
  refine J_iload_n (i := 0) (q := 2) (pc1 := 23) dJ6_stringSize_0f7a4_22 rfl rfl rfl ?_
  refine J_iload_n (i := 2) (q := 1) (pc1 := 24) dJ6_stringSize_0f7a4_23 rfl rfl rfl ?_
  refine J_icmp_le (tgt := 31) (pc1 := 27) dJ6_stringSize_0f7a4_24 (by decide) (fun q2 => ?_) rfl (fun q2 => ?_)
  rotate_left
  · refine J_iload_n (i := 3) (q := 0) (pc1 := 28) dJ6_stringSize_0f7a4_27 rfl rfl rfl ?_
    refine J_iload_n (i := 1) (q := 3) (pc1 := 29) dJ6_stringSize_0f7a4_28 rfl rfl rfl ?_
    refine J_iadd (pc1 := 30) dJ6_stringSize_0f7a4_29 rfl ?_
    refine J_eqI (y := nI (sb_dg v + 0)) (by rw [show sb_dg v = 2 from sb_dgK2 ((sb_nleB (a := v) (b := 10) hvB (by decide)).mp q1) (fun z => q2 ((sb_nleB (a := v) (b := 100) hvB (by decide)).mpr z))]; decide) ?_
    exact J_iret hr hlk dJ6_stringSize_0f7a4_30
  refine J_bipush (v := 10) (pc1 := 33) dJ6_stringSize_0f7a4_31 (by decide) rfl ?_
  refine J_iload_n (i := 2) (q := 1) (pc1 := 34) dJ6_stringSize_0f7a4_33 rfl rfl rfl ?_
  refine J_imul (pc1 := 35) dJ6_stringSize_0f7a4_34 rfl ?_
  refine J_eqI (y := (-1000)) (by decide) ?_
  refine J_istore_n (i := 2) (lv1 := [(2, .int (-1000)), (3, .int 2), (0, .int (-(nI v))), (1, .int 0)]) (pc1 := 36) dJ6_stringSize_0f7a4_35 rfl (by decide) rfl rfl ?_
  refine J_iinc (q := 1) (v := 3) (lv1 := [(3, .int 3), (2, .int (-1000)), (0, .int (-(nI v))), (1, .int 0)]) (pc1 := 39) dJ6_stringSize_0f7a4_36 rfl (by decide) (by decide) rfl rfl ?_
  refine J_goto (tgt := 16) dJ6_stringSize_0f7a4_39 (by decide) ?_
  refine J_iload_n (i := 3) (q := 0) (pc1 := 17) dJ6_stringSize_0f7a4_16 rfl rfl rfl ?_
  refine J_bipush (v := 10) (pc1 := 19) dJ6_stringSize_0f7a4_17 (by decide) rfl ?_
  refine J_icmp_ge (tgt := 42) (pc1 := 22) dJ6_stringSize_0f7a4_19 (by decide) (fun qq => absurd qq (by decide)) rfl (fun qq => ?_)
  refine J_iload_n (i := 0) (q := 2) (pc1 := 23) dJ6_stringSize_0f7a4_22 rfl rfl rfl ?_
  refine J_iload_n (i := 2) (q := 1) (pc1 := 24) dJ6_stringSize_0f7a4_23 rfl rfl rfl ?_
  refine J_icmp_le (tgt := 31) (pc1 := 27) dJ6_stringSize_0f7a4_24 (by decide) (fun q3 => ?_) rfl (fun q3 => ?_)
  rotate_left
  · refine J_iload_n (i := 3) (q := 0) (pc1 := 28) dJ6_stringSize_0f7a4_27 rfl rfl rfl ?_
    refine J_iload_n (i := 1) (q := 3) (pc1 := 29) dJ6_stringSize_0f7a4_28 rfl rfl rfl ?_
    refine J_iadd (pc1 := 30) dJ6_stringSize_0f7a4_29 rfl ?_
    refine J_eqI (y := nI (sb_dg v + 0)) (by rw [show sb_dg v = 3 from sb_dgK3 ((sb_nleB (a := v) (b := 100) hvB (by decide)).mp q2) (fun z => q3 ((sb_nleB (a := v) (b := 1000) hvB (by decide)).mpr z))]; decide) ?_
    exact J_iret hr hlk dJ6_stringSize_0f7a4_30
  refine J_bipush (v := 10) (pc1 := 33) dJ6_stringSize_0f7a4_31 (by decide) rfl ?_
  refine J_iload_n (i := 2) (q := 1) (pc1 := 34) dJ6_stringSize_0f7a4_33 rfl rfl rfl ?_
  refine J_imul (pc1 := 35) dJ6_stringSize_0f7a4_34 rfl ?_
  refine J_eqI (y := (-10000)) (by decide) ?_
  refine J_istore_n (i := 2) (lv1 := [(2, .int (-10000)), (3, .int 3), (0, .int (-(nI v))), (1, .int 0)]) (pc1 := 36) dJ6_stringSize_0f7a4_35 rfl (by decide) rfl rfl ?_
  refine J_iinc (q := 1) (v := 4) (lv1 := [(3, .int 4), (2, .int (-10000)), (0, .int (-(nI v))), (1, .int 0)]) (pc1 := 39) dJ6_stringSize_0f7a4_36 rfl (by decide) (by decide) rfl rfl ?_
  refine J_goto (tgt := 16) dJ6_stringSize_0f7a4_39 (by decide) ?_
  refine J_iload_n (i := 3) (q := 0) (pc1 := 17) dJ6_stringSize_0f7a4_16 rfl rfl rfl ?_
  refine J_bipush (v := 10) (pc1 := 19) dJ6_stringSize_0f7a4_17 (by decide) rfl ?_
  refine J_icmp_ge (tgt := 42) (pc1 := 22) dJ6_stringSize_0f7a4_19 (by decide) (fun qq => absurd qq (by decide)) rfl (fun qq => ?_)
  refine J_iload_n (i := 0) (q := 2) (pc1 := 23) dJ6_stringSize_0f7a4_22 rfl rfl rfl ?_
  refine J_iload_n (i := 2) (q := 1) (pc1 := 24) dJ6_stringSize_0f7a4_23 rfl rfl rfl ?_
  refine J_icmp_le (tgt := 31) (pc1 := 27) dJ6_stringSize_0f7a4_24 (by decide) (fun q4 => ?_) rfl (fun q4 => ?_)
  rotate_left
  · refine J_iload_n (i := 3) (q := 0) (pc1 := 28) dJ6_stringSize_0f7a4_27 rfl rfl rfl ?_
    refine J_iload_n (i := 1) (q := 3) (pc1 := 29) dJ6_stringSize_0f7a4_28 rfl rfl rfl ?_
    refine J_iadd (pc1 := 30) dJ6_stringSize_0f7a4_29 rfl ?_
    refine J_eqI (y := nI (sb_dg v + 0)) (by rw [show sb_dg v = 4 from sb_dgK4 ((sb_nleB (a := v) (b := 1000) hvB (by decide)).mp q3) (fun z => q4 ((sb_nleB (a := v) (b := 10000) hvB (by decide)).mpr z))]; decide) ?_
    exact J_iret hr hlk dJ6_stringSize_0f7a4_30
  refine J_bipush (v := 10) (pc1 := 33) dJ6_stringSize_0f7a4_31 (by decide) rfl ?_
  refine J_iload_n (i := 2) (q := 1) (pc1 := 34) dJ6_stringSize_0f7a4_33 rfl rfl rfl ?_
  refine J_imul (pc1 := 35) dJ6_stringSize_0f7a4_34 rfl ?_
  refine J_eqI (y := (-100000)) (by decide) ?_
  refine J_istore_n (i := 2) (lv1 := [(2, .int (-100000)), (3, .int 4), (0, .int (-(nI v))), (1, .int 0)]) (pc1 := 36) dJ6_stringSize_0f7a4_35 rfl (by decide) rfl rfl ?_
  refine J_iinc (q := 1) (v := 5) (lv1 := [(3, .int 5), (2, .int (-100000)), (0, .int (-(nI v))), (1, .int 0)]) (pc1 := 39) dJ6_stringSize_0f7a4_36 rfl (by decide) (by decide) rfl rfl ?_
  refine J_goto (tgt := 16) dJ6_stringSize_0f7a4_39 (by decide) ?_
  refine J_iload_n (i := 3) (q := 0) (pc1 := 17) dJ6_stringSize_0f7a4_16 rfl rfl rfl ?_
  refine J_bipush (v := 10) (pc1 := 19) dJ6_stringSize_0f7a4_17 (by decide) rfl ?_
  refine J_icmp_ge (tgt := 42) (pc1 := 22) dJ6_stringSize_0f7a4_19 (by decide) (fun qq => absurd qq (by decide)) rfl (fun qq => ?_)
  refine J_iload_n (i := 0) (q := 2) (pc1 := 23) dJ6_stringSize_0f7a4_22 rfl rfl rfl ?_
  refine J_iload_n (i := 2) (q := 1) (pc1 := 24) dJ6_stringSize_0f7a4_23 rfl rfl rfl ?_
  refine J_icmp_le (tgt := 31) (pc1 := 27) dJ6_stringSize_0f7a4_24 (by decide) (fun q5 => ?_) rfl (fun q5 => ?_)
  rotate_left
  · refine J_iload_n (i := 3) (q := 0) (pc1 := 28) dJ6_stringSize_0f7a4_27 rfl rfl rfl ?_
    refine J_iload_n (i := 1) (q := 3) (pc1 := 29) dJ6_stringSize_0f7a4_28 rfl rfl rfl ?_
    refine J_iadd (pc1 := 30) dJ6_stringSize_0f7a4_29 rfl ?_
    refine J_eqI (y := nI (sb_dg v + 0)) (by rw [show sb_dg v = 5 from sb_dgK5 ((sb_nleB (a := v) (b := 10000) hvB (by decide)).mp q4) (fun z => q5 ((sb_nleB (a := v) (b := 100000) hvB (by decide)).mpr z))]; decide) ?_
    exact J_iret hr hlk dJ6_stringSize_0f7a4_30
  refine J_bipush (v := 10) (pc1 := 33) dJ6_stringSize_0f7a4_31 (by decide) rfl ?_
  refine J_iload_n (i := 2) (q := 1) (pc1 := 34) dJ6_stringSize_0f7a4_33 rfl rfl rfl ?_
  refine J_imul (pc1 := 35) dJ6_stringSize_0f7a4_34 rfl ?_
  refine J_eqI (y := (-1000000)) (by decide) ?_
  refine J_istore_n (i := 2) (lv1 := [(2, .int (-1000000)), (3, .int 5), (0, .int (-(nI v))), (1, .int 0)]) (pc1 := 36) dJ6_stringSize_0f7a4_35 rfl (by decide) rfl rfl ?_
  refine J_iinc (q := 1) (v := 6) (lv1 := [(3, .int 6), (2, .int (-1000000)), (0, .int (-(nI v))), (1, .int 0)]) (pc1 := 39) dJ6_stringSize_0f7a4_36 rfl (by decide) (by decide) rfl rfl ?_
  refine J_goto (tgt := 16) dJ6_stringSize_0f7a4_39 (by decide) ?_
  refine J_iload_n (i := 3) (q := 0) (pc1 := 17) dJ6_stringSize_0f7a4_16 rfl rfl rfl ?_
  refine J_bipush (v := 10) (pc1 := 19) dJ6_stringSize_0f7a4_17 (by decide) rfl ?_
  refine J_icmp_ge (tgt := 42) (pc1 := 22) dJ6_stringSize_0f7a4_19 (by decide) (fun qq => absurd qq (by decide)) rfl (fun qq => ?_)
  refine J_iload_n (i := 0) (q := 2) (pc1 := 23) dJ6_stringSize_0f7a4_22 rfl rfl rfl ?_
  refine J_iload_n (i := 2) (q := 1) (pc1 := 24) dJ6_stringSize_0f7a4_23 rfl rfl rfl ?_
  refine J_icmp_le (tgt := 31) (pc1 := 27) dJ6_stringSize_0f7a4_24 (by decide) (fun q6 => ?_) rfl (fun q6 => ?_)
  rotate_left
  · refine J_iload_n (i := 3) (q := 0) (pc1 := 28) dJ6_stringSize_0f7a4_27 rfl rfl rfl ?_
    refine J_iload_n (i := 1) (q := 3) (pc1 := 29) dJ6_stringSize_0f7a4_28 rfl rfl rfl ?_
    refine J_iadd (pc1 := 30) dJ6_stringSize_0f7a4_29 rfl ?_
    refine J_eqI (y := nI (sb_dg v + 0)) (by rw [show sb_dg v = 6 from sb_dgK6 ((sb_nleB (a := v) (b := 100000) hvB (by decide)).mp q5) (fun z => q6 ((sb_nleB (a := v) (b := 1000000) hvB (by decide)).mpr z))]; decide) ?_
    exact J_iret hr hlk dJ6_stringSize_0f7a4_30
  refine J_bipush (v := 10) (pc1 := 33) dJ6_stringSize_0f7a4_31 (by decide) rfl ?_
  refine J_iload_n (i := 2) (q := 1) (pc1 := 34) dJ6_stringSize_0f7a4_33 rfl rfl rfl ?_
  refine J_imul (pc1 := 35) dJ6_stringSize_0f7a4_34 rfl ?_
  refine J_eqI (y := (-10000000)) (by decide) ?_
  refine J_istore_n (i := 2) (lv1 := [(2, .int (-10000000)), (3, .int 6), (0, .int (-(nI v))), (1, .int 0)]) (pc1 := 36) dJ6_stringSize_0f7a4_35 rfl (by decide) rfl rfl ?_
  refine J_iinc (q := 1) (v := 7) (lv1 := [(3, .int 7), (2, .int (-10000000)), (0, .int (-(nI v))), (1, .int 0)]) (pc1 := 39) dJ6_stringSize_0f7a4_36 rfl (by decide) (by decide) rfl rfl ?_
  refine J_goto (tgt := 16) dJ6_stringSize_0f7a4_39 (by decide) ?_
  refine J_iload_n (i := 3) (q := 0) (pc1 := 17) dJ6_stringSize_0f7a4_16 rfl rfl rfl ?_
  refine J_bipush (v := 10) (pc1 := 19) dJ6_stringSize_0f7a4_17 (by decide) rfl ?_
  refine J_icmp_ge (tgt := 42) (pc1 := 22) dJ6_stringSize_0f7a4_19 (by decide) (fun qq => absurd qq (by decide)) rfl (fun qq => ?_)
  refine J_iload_n (i := 0) (q := 2) (pc1 := 23) dJ6_stringSize_0f7a4_22 rfl rfl rfl ?_
  refine J_iload_n (i := 2) (q := 1) (pc1 := 24) dJ6_stringSize_0f7a4_23 rfl rfl rfl ?_
  refine J_icmp_le (tgt := 31) (pc1 := 27) dJ6_stringSize_0f7a4_24 (by decide) (fun q7 => ?_) rfl (fun q7 => ?_)
  rotate_left
  · refine J_iload_n (i := 3) (q := 0) (pc1 := 28) dJ6_stringSize_0f7a4_27 rfl rfl rfl ?_
    refine J_iload_n (i := 1) (q := 3) (pc1 := 29) dJ6_stringSize_0f7a4_28 rfl rfl rfl ?_
    refine J_iadd (pc1 := 30) dJ6_stringSize_0f7a4_29 rfl ?_
    refine J_eqI (y := nI (sb_dg v + 0)) (by rw [show sb_dg v = 7 from sb_dgK7 ((sb_nleB (a := v) (b := 1000000) hvB (by decide)).mp q6) (fun z => q7 ((sb_nleB (a := v) (b := 10000000) hvB (by decide)).mpr z))]; decide) ?_
    exact J_iret hr hlk dJ6_stringSize_0f7a4_30
  refine J_bipush (v := 10) (pc1 := 33) dJ6_stringSize_0f7a4_31 (by decide) rfl ?_
  refine J_iload_n (i := 2) (q := 1) (pc1 := 34) dJ6_stringSize_0f7a4_33 rfl rfl rfl ?_
  refine J_imul (pc1 := 35) dJ6_stringSize_0f7a4_34 rfl ?_
  refine J_eqI (y := (-100000000)) (by decide) ?_
  refine J_istore_n (i := 2) (lv1 := [(2, .int (-100000000)), (3, .int 7), (0, .int (-(nI v))), (1, .int 0)]) (pc1 := 36) dJ6_stringSize_0f7a4_35 rfl (by decide) rfl rfl ?_
  refine J_iinc (q := 1) (v := 8) (lv1 := [(3, .int 8), (2, .int (-100000000)), (0, .int (-(nI v))), (1, .int 0)]) (pc1 := 39) dJ6_stringSize_0f7a4_36 rfl (by decide) (by decide) rfl rfl ?_
  refine J_goto (tgt := 16) dJ6_stringSize_0f7a4_39 (by decide) ?_
  refine J_iload_n (i := 3) (q := 0) (pc1 := 17) dJ6_stringSize_0f7a4_16 rfl rfl rfl ?_
  refine J_bipush (v := 10) (pc1 := 19) dJ6_stringSize_0f7a4_17 (by decide) rfl ?_
  refine J_icmp_ge (tgt := 42) (pc1 := 22) dJ6_stringSize_0f7a4_19 (by decide) (fun qq => absurd qq (by decide)) rfl (fun qq => ?_)
  refine J_iload_n (i := 0) (q := 2) (pc1 := 23) dJ6_stringSize_0f7a4_22 rfl rfl rfl ?_
  refine J_iload_n (i := 2) (q := 1) (pc1 := 24) dJ6_stringSize_0f7a4_23 rfl rfl rfl ?_
  refine J_icmp_le (tgt := 31) (pc1 := 27) dJ6_stringSize_0f7a4_24 (by decide) (fun q8 => ?_) rfl (fun q8 => ?_)
  rotate_left
  · refine J_iload_n (i := 3) (q := 0) (pc1 := 28) dJ6_stringSize_0f7a4_27 rfl rfl rfl ?_
    refine J_iload_n (i := 1) (q := 3) (pc1 := 29) dJ6_stringSize_0f7a4_28 rfl rfl rfl ?_
    refine J_iadd (pc1 := 30) dJ6_stringSize_0f7a4_29 rfl ?_
    refine J_eqI (y := nI (sb_dg v + 0)) (by rw [show sb_dg v = 8 from sb_dgK8 ((sb_nleB (a := v) (b := 10000000) hvB (by decide)).mp q7) (fun z => q8 ((sb_nleB (a := v) (b := 100000000) hvB (by decide)).mpr z))]; decide) ?_
    exact J_iret hr hlk dJ6_stringSize_0f7a4_30
  refine J_bipush (v := 10) (pc1 := 33) dJ6_stringSize_0f7a4_31 (by decide) rfl ?_
  refine J_iload_n (i := 2) (q := 1) (pc1 := 34) dJ6_stringSize_0f7a4_33 rfl rfl rfl ?_
  refine J_imul (pc1 := 35) dJ6_stringSize_0f7a4_34 rfl ?_
  refine J_eqI (y := (-1000000000)) (by decide) ?_
  refine J_istore_n (i := 2) (lv1 := [(2, .int (-1000000000)), (3, .int 8), (0, .int (-(nI v))), (1, .int 0)]) (pc1 := 36) dJ6_stringSize_0f7a4_35 rfl (by decide) rfl rfl ?_
  refine J_iinc (q := 1) (v := 9) (lv1 := [(3, .int 9), (2, .int (-1000000000)), (0, .int (-(nI v))), (1, .int 0)]) (pc1 := 39) dJ6_stringSize_0f7a4_36 rfl (by decide) (by decide) rfl rfl ?_
  refine J_goto (tgt := 16) dJ6_stringSize_0f7a4_39 (by decide) ?_
  refine J_iload_n (i := 3) (q := 0) (pc1 := 17) dJ6_stringSize_0f7a4_16 rfl rfl rfl ?_
  refine J_bipush (v := 10) (pc1 := 19) dJ6_stringSize_0f7a4_17 (by decide) rfl ?_
  refine J_icmp_ge (tgt := 42) (pc1 := 22) dJ6_stringSize_0f7a4_19 (by decide) (fun qq => absurd qq (by decide)) rfl (fun qq => ?_)
  refine J_iload_n (i := 0) (q := 2) (pc1 := 23) dJ6_stringSize_0f7a4_22 rfl rfl rfl ?_
  refine J_iload_n (i := 2) (q := 1) (pc1 := 24) dJ6_stringSize_0f7a4_23 rfl rfl rfl ?_
  refine J_icmp_le (tgt := 31) (pc1 := 27) dJ6_stringSize_0f7a4_24 (by decide) (fun q9 => ?_) rfl (fun q9 => ?_)
  rotate_left
  · refine J_iload_n (i := 3) (q := 0) (pc1 := 28) dJ6_stringSize_0f7a4_27 rfl rfl rfl ?_
    refine J_iload_n (i := 1) (q := 3) (pc1 := 29) dJ6_stringSize_0f7a4_28 rfl rfl rfl ?_
    refine J_iadd (pc1 := 30) dJ6_stringSize_0f7a4_29 rfl ?_
    refine J_eqI (y := nI (sb_dg v + 0)) (by rw [show sb_dg v = 9 from sb_dgK9 ((sb_nleB (a := v) (b := 100000000) hvB (by decide)).mp q8) (fun z => q9 ((sb_nleB (a := v) (b := 1000000000) hvB (by decide)).mpr z))]; decide) ?_
    exact J_iret hr hlk dJ6_stringSize_0f7a4_30
  refine J_bipush (v := 10) (pc1 := 33) dJ6_stringSize_0f7a4_31 (by decide) rfl ?_
  refine J_iload_n (i := 2) (q := 1) (pc1 := 34) dJ6_stringSize_0f7a4_33 rfl rfl rfl ?_
  refine J_imul (pc1 := 35) dJ6_stringSize_0f7a4_34 rfl ?_
  refine J_eqI (y := (-1410065408)) (by decide) ?_
  refine J_istore_n (i := 2) (lv1 := [(2, .int (-1410065408)), (3, .int 9), (0, .int (-(nI v))), (1, .int 0)]) (pc1 := 36) dJ6_stringSize_0f7a4_35 rfl (by decide) rfl rfl ?_
  refine J_iinc (q := 1) (v := 10) (lv1 := [(3, .int 10), (2, .int (-1410065408)), (0, .int (-(nI v))), (1, .int 0)]) (pc1 := 39) dJ6_stringSize_0f7a4_36 rfl (by decide) (by decide) rfl rfl ?_
  refine J_goto (tgt := 16) dJ6_stringSize_0f7a4_39 (by decide) ?_
  refine J_iload_n (i := 3) (q := 0) (pc1 := 17) dJ6_stringSize_0f7a4_16 rfl rfl rfl ?_
  refine J_bipush (v := 10) (pc1 := 19) dJ6_stringSize_0f7a4_17 (by decide) rfl ?_
  refine J_icmp_ge (tgt := 42) (pc1 := 22) dJ6_stringSize_0f7a4_19 (by decide) (fun qq => ?_) rfl (fun qq => absurd (by decide) qq)
  refine J_bipush (v := 10) (pc1 := 44) dJ6_stringSize_0f7a4_42 (by decide) rfl ?_
  refine J_iload_n (i := 1) (q := 3) (pc1 := 45) dJ6_stringSize_0f7a4_44 rfl rfl rfl ?_
  refine J_iadd (pc1 := 46) dJ6_stringSize_0f7a4_45 rfl ?_
  refine J_eqI (y := nI (sb_dg v + 0)) (by rw [show sb_dg v = 10 from sb_dgK10 ((sb_nleB (a := v) (b := 1000000000) hvB (by decide)).mp q9)]; decide) ?_
  exact J_iret hr hlk dJ6_stringSize_0f7a4_46
theorem kJ6_stringSizeN {E : List (Nat × Nat)} {kd : Nat → gKd} {ad : Nat → Nat → Nat} {rh : gRh} (hI : gI E ad) (μ : gM) {v : Nat} (h0 : 0 < v) (hv : v ≤ 2 ^ 31) : gMet l yJ6_stringSize_0f7a4 cJ6_stringSize_0f7a4 4 (some .int) ({ frames := 0, cells := 0, slots := 0, locals := 20 } : Room) D E kd tc ad rh sa [.int (-nI v)] μ (some (.int (nI (sb_dg v + 1)))) μ := by
  have hvB : v ≤ 2 ^ 31 := hv
  refine gMet_of hI ⟨by decide +kernel, Nat.le_of_ble_eq_true rfl⟩ (fun p e s m args below meth c sz hr hlk => ?_)
  show J p l e ({ frames := 0, cells := 0, slots := 0, locals := 20 } : Room) s m args below meth c cJ6_stringSize_0f7a4 4 RJ6 D E kd tc ad rh sa (gA E ad sz) s.heap 0 0 _ μ 0 [(0, .int (-nI v))] []
  refine J_iconst (v := 1) (pc1 := 1) dJ6_stringSize_0f7a4_0 (by decide) rfl ?_
  refine J_istore_n (i := 1) (lv1 := [(1, .int 1), (0, .int (-nI v))]) (pc1 := 2) dJ6_stringSize_0f7a4_1 rfl (by decide) rfl rfl ?_
  refine J_iload_n (i := 0) (q := 1) (pc1 := 3) dJ6_stringSize_0f7a4_2 rfl rfl rfl ?_
  refine J_if_lt (tgt := 11) (pc1 := 6) dJ6_stringSize_0f7a4_3 (by decide) (fun qq => ?_) rfl (fun qq => absurd (sb_nneg h0 hv) qq)
  refine J_bipush (v := (-10)) (pc1 := 13) dJ6_stringSize_0f7a4_11 (by decide) rfl ?_
  refine J_istore_n (i := 2) (lv1 := [(2, .int (-10)), (1, .int 1), (0, .int (-nI v))]) (pc1 := 14) dJ6_stringSize_0f7a4_13 rfl (by decide) rfl rfl ?_
  refine J_iconst (v := 1) (pc1 := 15) dJ6_stringSize_0f7a4_14 (by decide) rfl ?_
  refine J_istore_n (i := 3) (lv1 := [(3, .int 1), (2, .int (-10)), (1, .int 1), (0, .int (-nI v))]) (pc1 := 16) dJ6_stringSize_0f7a4_15 rfl (by decide) rfl rfl ?_
  refine J_iload_n (i := 3) (q := 0) (pc1 := 17) dJ6_stringSize_0f7a4_16 rfl rfl rfl ?_
  refine J_bipush (v := 10) (pc1 := 19) dJ6_stringSize_0f7a4_17 (by decide) rfl ?_
  refine J_icmp_ge (tgt := 42) (pc1 := 22) dJ6_stringSize_0f7a4_19 (by decide) (fun qq => absurd qq (by decide)) rfl (fun qq => ?_)
  refine J_iload_n (i := 0) (q := 3) (pc1 := 23) dJ6_stringSize_0f7a4_22 rfl rfl rfl ?_
  refine J_iload_n (i := 2) (q := 1) (pc1 := 24) dJ6_stringSize_0f7a4_23 rfl rfl rfl ?_
  refine J_icmp_le (tgt := 31) (pc1 := 27) dJ6_stringSize_0f7a4_24 (by decide) (fun q1 => ?_) rfl (fun q1 => ?_)
  rotate_left
  · refine J_iload_n (i := 3) (q := 0) (pc1 := 28) dJ6_stringSize_0f7a4_27 rfl rfl rfl ?_
    refine J_iload_n (i := 1) (q := 2) (pc1 := 29) dJ6_stringSize_0f7a4_28 rfl rfl rfl ?_
    refine J_iadd (pc1 := 30) dJ6_stringSize_0f7a4_29 rfl ?_
    refine J_eqI (y := nI (sb_dg v + 1)) (by rw [show sb_dg v = 1 from sb_dgK1 (fun z => q1 ((sb_nleB (a := v) (b := 10) hvB (by decide)).mpr z))]; decide) ?_
    exact J_iret hr hlk dJ6_stringSize_0f7a4_30
  refine J_bipush (v := 10) (pc1 := 33) dJ6_stringSize_0f7a4_31 (by decide) rfl ?_
  refine J_iload_n (i := 2) (q := 1) (pc1 := 34) dJ6_stringSize_0f7a4_33 rfl rfl rfl ?_
  refine J_imul (pc1 := 35) dJ6_stringSize_0f7a4_34 rfl ?_
  refine J_eqI (y := (-100)) (by decide) ?_
  refine J_istore_n (i := 2) (lv1 := [(2, .int (-100)), (3, .int 1), (1, .int 1), (0, .int (-nI v))]) (pc1 := 36) dJ6_stringSize_0f7a4_35 rfl (by decide) rfl rfl ?_
  refine J_iinc (q := 1) (v := 2) (lv1 := [(3, .int 2), (2, .int (-100)), (1, .int 1), (0, .int (-nI v))]) (pc1 := 39) dJ6_stringSize_0f7a4_36 rfl (by decide) (by decide) rfl rfl ?_
  refine J_goto (tgt := 16) dJ6_stringSize_0f7a4_39 (by decide) ?_
  refine J_iload_n (i := 3) (q := 0) (pc1 := 17) dJ6_stringSize_0f7a4_16 rfl rfl rfl ?_
  refine J_bipush (v := 10) (pc1 := 19) dJ6_stringSize_0f7a4_17 (by decide) rfl ?_
  refine J_icmp_ge (tgt := 42) (pc1 := 22) dJ6_stringSize_0f7a4_19 (by decide) (fun qq => absurd qq (by decide)) rfl (fun qq => ?_)
  refine J_iload_n (i := 0) (q := 3) (pc1 := 23) dJ6_stringSize_0f7a4_22 rfl rfl rfl ?_
  refine J_iload_n (i := 2) (q := 1) (pc1 := 24) dJ6_stringSize_0f7a4_23 rfl rfl rfl ?_
  refine J_icmp_le (tgt := 31) (pc1 := 27) dJ6_stringSize_0f7a4_24 (by decide) (fun q2 => ?_) rfl (fun q2 => ?_)
  rotate_left
  · refine J_iload_n (i := 3) (q := 0) (pc1 := 28) dJ6_stringSize_0f7a4_27 rfl rfl rfl ?_
    refine J_iload_n (i := 1) (q := 2) (pc1 := 29) dJ6_stringSize_0f7a4_28 rfl rfl rfl ?_
    refine J_iadd (pc1 := 30) dJ6_stringSize_0f7a4_29 rfl ?_
    refine J_eqI (y := nI (sb_dg v + 1)) (by rw [show sb_dg v = 2 from sb_dgK2 ((sb_nleB (a := v) (b := 10) hvB (by decide)).mp q1) (fun z => q2 ((sb_nleB (a := v) (b := 100) hvB (by decide)).mpr z))]; decide) ?_
    exact J_iret hr hlk dJ6_stringSize_0f7a4_30
  refine J_bipush (v := 10) (pc1 := 33) dJ6_stringSize_0f7a4_31 (by decide) rfl ?_
  refine J_iload_n (i := 2) (q := 1) (pc1 := 34) dJ6_stringSize_0f7a4_33 rfl rfl rfl ?_
  refine J_imul (pc1 := 35) dJ6_stringSize_0f7a4_34 rfl ?_
  refine J_eqI (y := (-1000)) (by decide) ?_
  refine J_istore_n (i := 2) (lv1 := [(2, .int (-1000)), (3, .int 2), (1, .int 1), (0, .int (-nI v))]) (pc1 := 36) dJ6_stringSize_0f7a4_35 rfl (by decide) rfl rfl ?_
  refine J_iinc (q := 1) (v := 3) (lv1 := [(3, .int 3), (2, .int (-1000)), (1, .int 1), (0, .int (-nI v))]) (pc1 := 39) dJ6_stringSize_0f7a4_36 rfl (by decide) (by decide) rfl rfl ?_
  refine J_goto (tgt := 16) dJ6_stringSize_0f7a4_39 (by decide) ?_
  refine J_iload_n (i := 3) (q := 0) (pc1 := 17) dJ6_stringSize_0f7a4_16 rfl rfl rfl ?_
  refine J_bipush (v := 10) (pc1 := 19) dJ6_stringSize_0f7a4_17 (by decide) rfl ?_
  refine J_icmp_ge (tgt := 42) (pc1 := 22) dJ6_stringSize_0f7a4_19 (by decide) (fun qq => absurd qq (by decide)) rfl (fun qq => ?_)
  refine J_iload_n (i := 0) (q := 3) (pc1 := 23) dJ6_stringSize_0f7a4_22 rfl rfl rfl ?_
  refine J_iload_n (i := 2) (q := 1) (pc1 := 24) dJ6_stringSize_0f7a4_23 rfl rfl rfl ?_
  refine J_icmp_le (tgt := 31) (pc1 := 27) dJ6_stringSize_0f7a4_24 (by decide) (fun q3 => ?_) rfl (fun q3 => ?_)
  rotate_left
  · refine J_iload_n (i := 3) (q := 0) (pc1 := 28) dJ6_stringSize_0f7a4_27 rfl rfl rfl ?_
    refine J_iload_n (i := 1) (q := 2) (pc1 := 29) dJ6_stringSize_0f7a4_28 rfl rfl rfl ?_
    refine J_iadd (pc1 := 30) dJ6_stringSize_0f7a4_29 rfl ?_
    refine J_eqI (y := nI (sb_dg v + 1)) (by rw [show sb_dg v = 3 from sb_dgK3 ((sb_nleB (a := v) (b := 100) hvB (by decide)).mp q2) (fun z => q3 ((sb_nleB (a := v) (b := 1000) hvB (by decide)).mpr z))]; decide) ?_
    exact J_iret hr hlk dJ6_stringSize_0f7a4_30
  refine J_bipush (v := 10) (pc1 := 33) dJ6_stringSize_0f7a4_31 (by decide) rfl ?_
  refine J_iload_n (i := 2) (q := 1) (pc1 := 34) dJ6_stringSize_0f7a4_33 rfl rfl rfl ?_
  refine J_imul (pc1 := 35) dJ6_stringSize_0f7a4_34 rfl ?_
  refine J_eqI (y := (-10000)) (by decide) ?_
  refine J_istore_n (i := 2) (lv1 := [(2, .int (-10000)), (3, .int 3), (1, .int 1), (0, .int (-nI v))]) (pc1 := 36) dJ6_stringSize_0f7a4_35 rfl (by decide) rfl rfl ?_
  refine J_iinc (q := 1) (v := 4) (lv1 := [(3, .int 4), (2, .int (-10000)), (1, .int 1), (0, .int (-nI v))]) (pc1 := 39) dJ6_stringSize_0f7a4_36 rfl (by decide) (by decide) rfl rfl ?_
  refine J_goto (tgt := 16) dJ6_stringSize_0f7a4_39 (by decide) ?_
  refine J_iload_n (i := 3) (q := 0) (pc1 := 17) dJ6_stringSize_0f7a4_16 rfl rfl rfl ?_
  refine J_bipush (v := 10) (pc1 := 19) dJ6_stringSize_0f7a4_17 (by decide) rfl ?_
  refine J_icmp_ge (tgt := 42) (pc1 := 22) dJ6_stringSize_0f7a4_19 (by decide) (fun qq => absurd qq (by decide)) rfl (fun qq => ?_)
  refine J_iload_n (i := 0) (q := 3) (pc1 := 23) dJ6_stringSize_0f7a4_22 rfl rfl rfl ?_
  refine J_iload_n (i := 2) (q := 1) (pc1 := 24) dJ6_stringSize_0f7a4_23 rfl rfl rfl ?_
  refine J_icmp_le (tgt := 31) (pc1 := 27) dJ6_stringSize_0f7a4_24 (by decide) (fun q4 => ?_) rfl (fun q4 => ?_)
  rotate_left
  · refine J_iload_n (i := 3) (q := 0) (pc1 := 28) dJ6_stringSize_0f7a4_27 rfl rfl rfl ?_
    refine J_iload_n (i := 1) (q := 2) (pc1 := 29) dJ6_stringSize_0f7a4_28 rfl rfl rfl ?_
    refine J_iadd (pc1 := 30) dJ6_stringSize_0f7a4_29 rfl ?_
    refine J_eqI (y := nI (sb_dg v + 1)) (by rw [show sb_dg v = 4 from sb_dgK4 ((sb_nleB (a := v) (b := 1000) hvB (by decide)).mp q3) (fun z => q4 ((sb_nleB (a := v) (b := 10000) hvB (by decide)).mpr z))]; decide) ?_
    exact J_iret hr hlk dJ6_stringSize_0f7a4_30
  refine J_bipush (v := 10) (pc1 := 33) dJ6_stringSize_0f7a4_31 (by decide) rfl ?_
  refine J_iload_n (i := 2) (q := 1) (pc1 := 34) dJ6_stringSize_0f7a4_33 rfl rfl rfl ?_
  refine J_imul (pc1 := 35) dJ6_stringSize_0f7a4_34 rfl ?_
  refine J_eqI (y := (-100000)) (by decide) ?_
  refine J_istore_n (i := 2) (lv1 := [(2, .int (-100000)), (3, .int 4), (1, .int 1), (0, .int (-nI v))]) (pc1 := 36) dJ6_stringSize_0f7a4_35 rfl (by decide) rfl rfl ?_
  refine J_iinc (q := 1) (v := 5) (lv1 := [(3, .int 5), (2, .int (-100000)), (1, .int 1), (0, .int (-nI v))]) (pc1 := 39) dJ6_stringSize_0f7a4_36 rfl (by decide) (by decide) rfl rfl ?_
  refine J_goto (tgt := 16) dJ6_stringSize_0f7a4_39 (by decide) ?_
  refine J_iload_n (i := 3) (q := 0) (pc1 := 17) dJ6_stringSize_0f7a4_16 rfl rfl rfl ?_
  refine J_bipush (v := 10) (pc1 := 19) dJ6_stringSize_0f7a4_17 (by decide) rfl ?_
  refine J_icmp_ge (tgt := 42) (pc1 := 22) dJ6_stringSize_0f7a4_19 (by decide) (fun qq => absurd qq (by decide)) rfl (fun qq => ?_)
  refine J_iload_n (i := 0) (q := 3) (pc1 := 23) dJ6_stringSize_0f7a4_22 rfl rfl rfl ?_
  refine J_iload_n (i := 2) (q := 1) (pc1 := 24) dJ6_stringSize_0f7a4_23 rfl rfl rfl ?_
  refine J_icmp_le (tgt := 31) (pc1 := 27) dJ6_stringSize_0f7a4_24 (by decide) (fun q5 => ?_) rfl (fun q5 => ?_)
  rotate_left
  · refine J_iload_n (i := 3) (q := 0) (pc1 := 28) dJ6_stringSize_0f7a4_27 rfl rfl rfl ?_
    refine J_iload_n (i := 1) (q := 2) (pc1 := 29) dJ6_stringSize_0f7a4_28 rfl rfl rfl ?_
    refine J_iadd (pc1 := 30) dJ6_stringSize_0f7a4_29 rfl ?_
    refine J_eqI (y := nI (sb_dg v + 1)) (by rw [show sb_dg v = 5 from sb_dgK5 ((sb_nleB (a := v) (b := 10000) hvB (by decide)).mp q4) (fun z => q5 ((sb_nleB (a := v) (b := 100000) hvB (by decide)).mpr z))]; decide) ?_
    exact J_iret hr hlk dJ6_stringSize_0f7a4_30
  refine J_bipush (v := 10) (pc1 := 33) dJ6_stringSize_0f7a4_31 (by decide) rfl ?_
  refine J_iload_n (i := 2) (q := 1) (pc1 := 34) dJ6_stringSize_0f7a4_33 rfl rfl rfl ?_
  refine J_imul (pc1 := 35) dJ6_stringSize_0f7a4_34 rfl ?_
  refine J_eqI (y := (-1000000)) (by decide) ?_
  refine J_istore_n (i := 2) (lv1 := [(2, .int (-1000000)), (3, .int 5), (1, .int 1), (0, .int (-nI v))]) (pc1 := 36) dJ6_stringSize_0f7a4_35 rfl (by decide) rfl rfl ?_
  refine J_iinc (q := 1) (v := 6) (lv1 := [(3, .int 6), (2, .int (-1000000)), (1, .int 1), (0, .int (-nI v))]) (pc1 := 39) dJ6_stringSize_0f7a4_36 rfl (by decide) (by decide) rfl rfl ?_
  refine J_goto (tgt := 16) dJ6_stringSize_0f7a4_39 (by decide) ?_
  refine J_iload_n (i := 3) (q := 0) (pc1 := 17) dJ6_stringSize_0f7a4_16 rfl rfl rfl ?_
  refine J_bipush (v := 10) (pc1 := 19) dJ6_stringSize_0f7a4_17 (by decide) rfl ?_
  refine J_icmp_ge (tgt := 42) (pc1 := 22) dJ6_stringSize_0f7a4_19 (by decide) (fun qq => absurd qq (by decide)) rfl (fun qq => ?_)
  refine J_iload_n (i := 0) (q := 3) (pc1 := 23) dJ6_stringSize_0f7a4_22 rfl rfl rfl ?_
  refine J_iload_n (i := 2) (q := 1) (pc1 := 24) dJ6_stringSize_0f7a4_23 rfl rfl rfl ?_
  refine J_icmp_le (tgt := 31) (pc1 := 27) dJ6_stringSize_0f7a4_24 (by decide) (fun q6 => ?_) rfl (fun q6 => ?_)
  rotate_left
  · refine J_iload_n (i := 3) (q := 0) (pc1 := 28) dJ6_stringSize_0f7a4_27 rfl rfl rfl ?_
    refine J_iload_n (i := 1) (q := 2) (pc1 := 29) dJ6_stringSize_0f7a4_28 rfl rfl rfl ?_
    refine J_iadd (pc1 := 30) dJ6_stringSize_0f7a4_29 rfl ?_
    refine J_eqI (y := nI (sb_dg v + 1)) (by rw [show sb_dg v = 6 from sb_dgK6 ((sb_nleB (a := v) (b := 100000) hvB (by decide)).mp q5) (fun z => q6 ((sb_nleB (a := v) (b := 1000000) hvB (by decide)).mpr z))]; decide) ?_
    exact J_iret hr hlk dJ6_stringSize_0f7a4_30
  refine J_bipush (v := 10) (pc1 := 33) dJ6_stringSize_0f7a4_31 (by decide) rfl ?_
  refine J_iload_n (i := 2) (q := 1) (pc1 := 34) dJ6_stringSize_0f7a4_33 rfl rfl rfl ?_
  refine J_imul (pc1 := 35) dJ6_stringSize_0f7a4_34 rfl ?_
  refine J_eqI (y := (-10000000)) (by decide) ?_
  refine J_istore_n (i := 2) (lv1 := [(2, .int (-10000000)), (3, .int 6), (1, .int 1), (0, .int (-nI v))]) (pc1 := 36) dJ6_stringSize_0f7a4_35 rfl (by decide) rfl rfl ?_
  refine J_iinc (q := 1) (v := 7) (lv1 := [(3, .int 7), (2, .int (-10000000)), (1, .int 1), (0, .int (-nI v))]) (pc1 := 39) dJ6_stringSize_0f7a4_36 rfl (by decide) (by decide) rfl rfl ?_
  refine J_goto (tgt := 16) dJ6_stringSize_0f7a4_39 (by decide) ?_
  refine J_iload_n (i := 3) (q := 0) (pc1 := 17) dJ6_stringSize_0f7a4_16 rfl rfl rfl ?_
  refine J_bipush (v := 10) (pc1 := 19) dJ6_stringSize_0f7a4_17 (by decide) rfl ?_
  refine J_icmp_ge (tgt := 42) (pc1 := 22) dJ6_stringSize_0f7a4_19 (by decide) (fun qq => absurd qq (by decide)) rfl (fun qq => ?_)
  refine J_iload_n (i := 0) (q := 3) (pc1 := 23) dJ6_stringSize_0f7a4_22 rfl rfl rfl ?_
  refine J_iload_n (i := 2) (q := 1) (pc1 := 24) dJ6_stringSize_0f7a4_23 rfl rfl rfl ?_
  refine J_icmp_le (tgt := 31) (pc1 := 27) dJ6_stringSize_0f7a4_24 (by decide) (fun q7 => ?_) rfl (fun q7 => ?_)
  rotate_left
  · refine J_iload_n (i := 3) (q := 0) (pc1 := 28) dJ6_stringSize_0f7a4_27 rfl rfl rfl ?_
    refine J_iload_n (i := 1) (q := 2) (pc1 := 29) dJ6_stringSize_0f7a4_28 rfl rfl rfl ?_
    refine J_iadd (pc1 := 30) dJ6_stringSize_0f7a4_29 rfl ?_
    refine J_eqI (y := nI (sb_dg v + 1)) (by rw [show sb_dg v = 7 from sb_dgK7 ((sb_nleB (a := v) (b := 1000000) hvB (by decide)).mp q6) (fun z => q7 ((sb_nleB (a := v) (b := 10000000) hvB (by decide)).mpr z))]; decide) ?_
    exact J_iret hr hlk dJ6_stringSize_0f7a4_30
  refine J_bipush (v := 10) (pc1 := 33) dJ6_stringSize_0f7a4_31 (by decide) rfl ?_
  refine J_iload_n (i := 2) (q := 1) (pc1 := 34) dJ6_stringSize_0f7a4_33 rfl rfl rfl ?_
  refine J_imul (pc1 := 35) dJ6_stringSize_0f7a4_34 rfl ?_
  refine J_eqI (y := (-100000000)) (by decide) ?_
  refine J_istore_n (i := 2) (lv1 := [(2, .int (-100000000)), (3, .int 7), (1, .int 1), (0, .int (-nI v))]) (pc1 := 36) dJ6_stringSize_0f7a4_35 rfl (by decide) rfl rfl ?_
  refine J_iinc (q := 1) (v := 8) (lv1 := [(3, .int 8), (2, .int (-100000000)), (1, .int 1), (0, .int (-nI v))]) (pc1 := 39) dJ6_stringSize_0f7a4_36 rfl (by decide) (by decide) rfl rfl ?_
  refine J_goto (tgt := 16) dJ6_stringSize_0f7a4_39 (by decide) ?_
  refine J_iload_n (i := 3) (q := 0) (pc1 := 17) dJ6_stringSize_0f7a4_16 rfl rfl rfl ?_
  refine J_bipush (v := 10) (pc1 := 19) dJ6_stringSize_0f7a4_17 (by decide) rfl ?_
  refine J_icmp_ge (tgt := 42) (pc1 := 22) dJ6_stringSize_0f7a4_19 (by decide) (fun qq => absurd qq (by decide)) rfl (fun qq => ?_)
  refine J_iload_n (i := 0) (q := 3) (pc1 := 23) dJ6_stringSize_0f7a4_22 rfl rfl rfl ?_
  refine J_iload_n (i := 2) (q := 1) (pc1 := 24) dJ6_stringSize_0f7a4_23 rfl rfl rfl ?_
  refine J_icmp_le (tgt := 31) (pc1 := 27) dJ6_stringSize_0f7a4_24 (by decide) (fun q8 => ?_) rfl (fun q8 => ?_)
  rotate_left
  · refine J_iload_n (i := 3) (q := 0) (pc1 := 28) dJ6_stringSize_0f7a4_27 rfl rfl rfl ?_
    refine J_iload_n (i := 1) (q := 2) (pc1 := 29) dJ6_stringSize_0f7a4_28 rfl rfl rfl ?_
    refine J_iadd (pc1 := 30) dJ6_stringSize_0f7a4_29 rfl ?_
    refine J_eqI (y := nI (sb_dg v + 1)) (by rw [show sb_dg v = 8 from sb_dgK8 ((sb_nleB (a := v) (b := 10000000) hvB (by decide)).mp q7) (fun z => q8 ((sb_nleB (a := v) (b := 100000000) hvB (by decide)).mpr z))]; decide) ?_
    exact J_iret hr hlk dJ6_stringSize_0f7a4_30
  refine J_bipush (v := 10) (pc1 := 33) dJ6_stringSize_0f7a4_31 (by decide) rfl ?_
  refine J_iload_n (i := 2) (q := 1) (pc1 := 34) dJ6_stringSize_0f7a4_33 rfl rfl rfl ?_
  refine J_imul (pc1 := 35) dJ6_stringSize_0f7a4_34 rfl ?_
  refine J_eqI (y := (-1000000000)) (by decide) ?_
  refine J_istore_n (i := 2) (lv1 := [(2, .int (-1000000000)), (3, .int 8), (1, .int 1), (0, .int (-nI v))]) (pc1 := 36) dJ6_stringSize_0f7a4_35 rfl (by decide) rfl rfl ?_
  refine J_iinc (q := 1) (v := 9) (lv1 := [(3, .int 9), (2, .int (-1000000000)), (1, .int 1), (0, .int (-nI v))]) (pc1 := 39) dJ6_stringSize_0f7a4_36 rfl (by decide) (by decide) rfl rfl ?_
  refine J_goto (tgt := 16) dJ6_stringSize_0f7a4_39 (by decide) ?_
  refine J_iload_n (i := 3) (q := 0) (pc1 := 17) dJ6_stringSize_0f7a4_16 rfl rfl rfl ?_
  refine J_bipush (v := 10) (pc1 := 19) dJ6_stringSize_0f7a4_17 (by decide) rfl ?_
  refine J_icmp_ge (tgt := 42) (pc1 := 22) dJ6_stringSize_0f7a4_19 (by decide) (fun qq => absurd qq (by decide)) rfl (fun qq => ?_)
  refine J_iload_n (i := 0) (q := 3) (pc1 := 23) dJ6_stringSize_0f7a4_22 rfl rfl rfl ?_
  refine J_iload_n (i := 2) (q := 1) (pc1 := 24) dJ6_stringSize_0f7a4_23 rfl rfl rfl ?_
  refine J_icmp_le (tgt := 31) (pc1 := 27) dJ6_stringSize_0f7a4_24 (by decide) (fun q9 => ?_) rfl (fun q9 => ?_)
  rotate_left
  · refine J_iload_n (i := 3) (q := 0) (pc1 := 28) dJ6_stringSize_0f7a4_27 rfl rfl rfl ?_
    refine J_iload_n (i := 1) (q := 2) (pc1 := 29) dJ6_stringSize_0f7a4_28 rfl rfl rfl ?_
    refine J_iadd (pc1 := 30) dJ6_stringSize_0f7a4_29 rfl ?_
    refine J_eqI (y := nI (sb_dg v + 1)) (by rw [show sb_dg v = 9 from sb_dgK9 ((sb_nleB (a := v) (b := 100000000) hvB (by decide)).mp q8) (fun z => q9 ((sb_nleB (a := v) (b := 1000000000) hvB (by decide)).mpr z))]; decide) ?_
    exact J_iret hr hlk dJ6_stringSize_0f7a4_30
  refine J_bipush (v := 10) (pc1 := 33) dJ6_stringSize_0f7a4_31 (by decide) rfl ?_
  refine J_iload_n (i := 2) (q := 1) (pc1 := 34) dJ6_stringSize_0f7a4_33 rfl rfl rfl ?_
  refine J_imul (pc1 := 35) dJ6_stringSize_0f7a4_34 rfl ?_
  refine J_eqI (y := (-1410065408)) (by decide) ?_
  refine J_istore_n (i := 2) (lv1 := [(2, .int (-1410065408)), (3, .int 9), (1, .int 1), (0, .int (-nI v))]) (pc1 := 36) dJ6_stringSize_0f7a4_35 rfl (by decide) rfl rfl ?_
  refine J_iinc (q := 1) (v := 10) (lv1 := [(3, .int 10), (2, .int (-1410065408)), (1, .int 1), (0, .int (-nI v))]) (pc1 := 39) dJ6_stringSize_0f7a4_36 rfl (by decide) (by decide) rfl rfl ?_
  refine J_goto (tgt := 16) dJ6_stringSize_0f7a4_39 (by decide) ?_
  refine J_iload_n (i := 3) (q := 0) (pc1 := 17) dJ6_stringSize_0f7a4_16 rfl rfl rfl ?_
  refine J_bipush (v := 10) (pc1 := 19) dJ6_stringSize_0f7a4_17 (by decide) rfl ?_
  refine J_icmp_ge (tgt := 42) (pc1 := 22) dJ6_stringSize_0f7a4_19 (by decide) (fun qq => ?_) rfl (fun qq => absurd (by decide) qq)
  refine J_bipush (v := 10) (pc1 := 44) dJ6_stringSize_0f7a4_42 (by decide) rfl ?_
  refine J_iload_n (i := 1) (q := 2) (pc1 := 45) dJ6_stringSize_0f7a4_44 rfl rfl rfl ?_
  refine J_iadd (pc1 := 46) dJ6_stringSize_0f7a4_45 rfl ?_
  refine J_eqI (y := nI (sb_dg v + 1)) (by rw [show sb_dg v = 10 from sb_dgK10 ((sb_nleB (a := v) (b := 1000000000) hvB (by decide)).mp q9)]; decide) ?_
  exact J_iret hr hlk dJ6_stringSize_0f7a4_46
end SB6
