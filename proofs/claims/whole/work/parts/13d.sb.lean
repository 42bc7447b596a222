/-! the builder: append(char), length, charAt, setLength(0) -/
theorem slb0 : Cond.selects RJ4 yJ5_ensureCapacityInternal_d00df yJ5_ensureCapacityInternal_d00df ∈ BIG := big_sb (i := 0) rfl rfl
theorem flJ5_79 : Cond.fieldLink RJ5 79 "java/lang/AbstractStringBuilder" "count" "I" ∈ BIG := bigT2 (i := 143) rfl rfl
theorem wlJ5_100 : Cond.methodLink RJ5 100 yJ5_ensureCapacityInternal_d00df ∈ BIG := bigT6 (i := 24) rfl rfl
theorem smJ5_ensureCapacityInternal_d00df : Cond.sameMethod yJ5_ensureCapacityInternal_d00df.cls yJ5_ensureCapacityInternal_d00df.cls yJ5_ensureCapacityInternal_d00df.name yJ5_ensureCapacityInternal_d00df.desc ∈ BIG := bigT8 (i := 224) rfl rfl
theorem imJ5_ensureCapacityInternal_d00df : Cond.instanceMethod yJ5_ensureCapacityInternal_d00df ∈ BIG := bigT6 (i := 26) rfl rfl
theorem cdJ5_ensureCapacityInternal_d00df : Cond.code yJ5_ensureCapacityInternal_d00df cJ5_ensureCapacityInternal_d00df 3 (none) ∈ BIG := bigT6 (i := 27) rfl rfl
theorem wuJ5_100 : wCu RJ4 RJ5 100 yJ5_ensureCapacityInternal_d00df yJ5_ensureCapacityInternal_d00df cJ5_ensureCapacityInternal_d00df 3 (none) 1 := ⟨⟨wlJ5_100, smJ5_ensureCapacityInternal_d00df, imJ5_ensureCapacityInternal_d00df, ⟨_, _, _, cdJ5_ensureCapacityInternal_d00df⟩, imJ5_ensureCapacityInternal_d00df, iniJ5, cdJ5_ensureCapacityInternal_d00df⟩, by decide +kernel⟩
theorem wlJ5_83 : Cond.methodLink RJ5 83 yJ5_isLatin1_aae02 ∈ BIG := bigT6 (i := 53) rfl rfl
theorem smJ5_isLatin1_aae02 : Cond.sameMethod yJ5_isLatin1_aae02.cls yJ5_isLatin1_aae02.cls yJ5_isLatin1_aae02.name yJ5_isLatin1_aae02.desc ∈ BIG := bigT6 (i := 55) rfl rfl
theorem imJ5_isLatin1_aae02 : Cond.instanceMethod yJ5_isLatin1_aae02 ∈ BIG := bigT6 (i := 54) rfl rfl
theorem cdJ5_isLatin1_aae02 : Cond.code yJ5_isLatin1_aae02 cJ5_isLatin1_aae02 1 (some .boolean) ∈ BIG := bigT6 (i := 57) rfl rfl
theorem wuJ5_83 : wCu RJ4 RJ5 83 yJ5_isLatin1_aae02 yJ5_isLatin1_aae02 cJ5_isLatin1_aae02 1 (some .boolean) 0 := ⟨⟨wlJ5_83, smJ5_isLatin1_aae02, imJ5_isLatin1_aae02, ⟨_, _, _, cdJ5_isLatin1_aae02⟩, imJ5_isLatin1_aae02, iniJ5, cdJ5_isLatin1_aae02⟩, by decide +kernel⟩
theorem wlJ5_191 : Cond.methodLink RJ5 191 yJ1_canEncode_fc78d ∈ BIG := bigT6 (i := 234) rfl rfl
theorem stJ1_canEncode_fc78d : Cond.static yJ1_canEncode_fc78d ∈ BIG := bigT6 (i := 235) rfl rfl
theorem cdJ1_canEncode_fc78d : Cond.code yJ1_canEncode_fc78d cJ1_canEncode_fc78d 1 (some .boolean) ∈ BIG := bigT6 (i := 236) rfl rfl
theorem wcJ1_canEncode_fc78d : wCs yJ1_canEncode_fc78d cJ1_canEncode_fc78d 1 (some .boolean) 1 := ⟨⟨stJ1_canEncode_fc78d, iniJ1, cdJ1_canEncode_fc78d⟩, by decide +kernel⟩
theorem spJ4 : Cond.superclass RJ4 RJ5 ∈ BIG := bigT2 (i := 152) rfl rfl
theorem wlJ4_50 : Cond.methodLink RJ4 50 yJ5_append_3fe6f ∈ BIG := bigT6 (i := 231) rfl rfl
theorem smJ5_append_3fe6f : Cond.sameMethod yJ5_append_3fe6f.cls yJ5_append_3fe6f.cls yJ5_append_3fe6f.name yJ5_append_3fe6f.desc ∈ BIG := bigT8 (i := 230) rfl rfl
theorem imJ5_append_3fe6f : Cond.instanceMethod yJ5_append_3fe6f ∈ BIG := bigT6 (i := 232) rfl rfl
theorem cdJ5_append_3fe6f : Cond.code yJ5_append_3fe6f cJ5_append_3fe6f 2 (some (.object "java/lang/AbstractStringBuilder")) ∈ BIG := bigT6 (i := 233) rfl rfl
theorem wpJ4_50 : wCsu RJ4 50 yJ5_append_3fe6f cJ5_append_3fe6f 2 (some (.object "java/lang/AbstractStringBuilder")) 1 := ⟨⟨wlJ4_50, smJ5_append_3fe6f, spJ4, imJ5_append_3fe6f, iniJ5, cdJ5_append_3fe6f⟩, by decide +kernel⟩
theorem wlJ4_343 : Cond.methodLink RJ4 343 yJ5_length_8abf5 ∈ BIG := bigT6 (i := 156) rfl rfl
theorem smJ5_length_8abf5 : Cond.sameMethod yJ5_length_8abf5.cls yJ5_length_8abf5.cls yJ5_length_8abf5.name yJ5_length_8abf5.desc ∈ BIG := bigT6 (i := 152) rfl rfl
theorem imJ5_length_8abf5 : Cond.instanceMethod yJ5_length_8abf5 ∈ BIG := bigT6 (i := 151) rfl rfl
theorem cdJ5_length_8abf5 : Cond.code yJ5_length_8abf5 cJ5_length_8abf5 1 (some .int) ∈ BIG := bigT6 (i := 157) rfl rfl
theorem wpJ4_343 : wCsu RJ4 343 yJ5_length_8abf5 cJ5_length_8abf5 1 (some .int) 0 := ⟨⟨wlJ4_343, smJ5_length_8abf5, spJ4, imJ5_length_8abf5, iniJ5, cdJ5_length_8abf5⟩, by decide +kernel⟩
theorem sbwlMin5 : Cond.methodLink RJ5 138 Lib.Math.min.name ∈ BIG := bigT7 (i := 21) rfl rfl
theorem wlJ5_144 : Cond.methodLink RJ5 144 yJ0_checkIndex_df160 ∈ BIG := bigT7 (i := 22) rfl rfl
theorem wlJ4_329 : Cond.methodLink RJ4 329 yJ5_charAt_5068e ∈ BIG := bigT7 (i := 18) rfl rfl
theorem smJ5_charAt_5068e : Cond.sameMethod yJ5_charAt_5068e.cls yJ5_charAt_5068e.cls yJ5_charAt_5068e.name yJ5_charAt_5068e.desc ∈ BIG := bigT8 (i := 232) rfl rfl
theorem imJ5_charAt_5068e : Cond.instanceMethod yJ5_charAt_5068e ∈ BIG := bigT7 (i := 19) rfl rfl
theorem cdJ5_charAt_5068e : Cond.code yJ5_charAt_5068e cJ5_charAt_5068e 5 (some .char) ∈ BIG := bigT7 (i := 20) rfl rfl
theorem wpJ4_329 : wCsu RJ4 329 yJ5_charAt_5068e cJ5_charAt_5068e 5 (some .char) 1 := ⟨⟨wlJ4_329, smJ5_charAt_5068e, spJ4, imJ5_charAt_5068e, iniJ5, cdJ5_charAt_5068e⟩, by decide +kernel⟩
theorem flJ5_73 : Cond.fieldLink RJ5 73 "java/lang/AbstractStringBuilder" "maybeLatin1" "Z" ∈ BIG := bigT2 (i := 141) rfl rfl
theorem wlJ4_333 : Cond.methodLink RJ4 333 yJ5_setLength_d00df ∈ BIG := bigT6 (i := 2) rfl rfl
theorem smJ5_setLength_d00df : Cond.sameMethod yJ5_setLength_d00df.cls yJ5_setLength_d00df.cls yJ5_setLength_d00df.name yJ5_setLength_d00df.desc ∈ BIG := bigT8 (i := 221) rfl rfl
theorem imJ5_setLength_d00df : Cond.instanceMethod yJ5_setLength_d00df ∈ BIG := bigT6 (i := 3) rfl rfl
theorem cdJ5_setLength_d00df : Cond.code yJ5_setLength_d00df cJ5_setLength_d00df 2 (none) ∈ BIG := bigT6 (i := 4) rfl rfl
theorem wpJ4_333 : wCsu RJ4 333 yJ5_setLength_d00df cJ5_setLength_d00df 2 (none) 1 := ⟨⟨wlJ4_333, smJ5_setLength_d00df, spJ4, imJ5_setLength_d00df, iniJ5, cdJ5_setLength_d00df⟩, by decide +kernel⟩
section SB5
variable (l : Launch) (D : va_G) (tc : Nat → ClassId) (sa : Nat → Nat)
theorem sb_nb (c : Nat) : vp_nar .byte (sb_b c) = sb_b c := by
  exact pk_vb (nI c)
theorem kJ1_canEncode {E : List (Nat × Nat)} {kd : Nat → gKd} {ad : Nat → Nat → Nat} {rh : gRh} (hI : gI E ad) (μ : gM) {ch : Nat} (hc : ch < 256) : gMet l yJ1_canEncode_fc78d cJ1_canEncode_fc78d 1 (some .boolean) ({ frames := 0, cells := 0, slots := 0, locals := 20 } : Room) D E kd tc ad rh sa [.int (nI ch)] μ (some (.int 1)) μ := by
  refine gMet_of hI ⟨by decide +kernel, Nat.le_of_ble_eq_true rfl⟩ (fun p e s m args below meth c sz hr hlk => ?_)
  show J p l e ({ frames := 0, cells := 0, slots := 0, locals := 20 } : Room) s m args below meth c cJ1_canEncode_fc78d 1 RJ1 D E kd tc ad rh sa (gA E ad sz) s.heap 0 0 _ μ 0 [(0, .int (nI ch))] []
  refine J_iload_n (i := 0) (q := 0) (pc1 := 1) dJ1_canEncode_fc78d_0 rfl rfl rfl ?_
  refine J_sipush (v := 255) (pc1 := 4) dJ1_canEncode_fc78d_1 (by decide) rfl ?_
  refine J_icmp_gt (tgt := 11) (pc1 := 7) dJ1_canEncode_fc78d_4 (by decide) (fun qq => absurd qq (show ¬ nI 255 < nI ch from nI_nlt (by omega) (by omega))) rfl (fun qq => ?_)
  refine J_iconst (v := 1) (pc1 := 8) dJ1_canEncode_fc78d_7 (by decide) rfl ?_
  refine J_goto (tgt := 12) dJ1_canEncode_fc78d_8 (by decide) ?_
  exact J_zret (by decide) hr hlk dJ1_canEncode_fc78d_12
theorem sRh_put (row : Nat → Int32) (j : Nat) {k0 : Nat} (v : Int32) (_ : [0].contains j = true) : sRh (upd row k0 v) 0 0 j = sRh row 0 0 j := rfl
theorem kJ5_appendC {ad : Nat → Nat → Nat} (hI : gI sE ad) {N n cp : Nat} {ml : Int32} {arr : Nat → Int32} {ch : Nat} {t : Nat → Nat} (hc : ch < 256) (hm : cp ≤ 65536) (hq : sb_cap (n + 1) cp ≤ 65536) (hnm : n ≤ cp) (hL : sb_Lat t n arr) (hf : sb_Fit arr) : gMetG l yJ5_append_3fe6f cJ5_append_3fe6f 2 (some (.object "java/lang/AbstractStringBuilder")) ({ frames := 6, cells := sMc (n + 1) cp, slots := sMs (n + 1) cp, locals := 400 } : Room) D sE (sKd cp N) tc ad sRh sa [.ref (ad 0 0), .int (nI ch)] (sM n ml arr) (sPo ad (some (.ref (ad 0 0))) (sb_cat t n (fun _ => ch)) (n + 1) (sb_cap (n + 1) cp)) := by
  have hq1 := sb_cap_ge (n + 1) cp
  refine gMetG_of hI ⟨by decide +kernel, Nat.le_of_ble_eq_true rfl⟩ (fun p e s m args below meth c sz hr hlk => ?_)
  show J p l e ({ frames := 6, cells := sMc (n + 1) cp, slots := sMs (n + 1) cp, locals := 400 } : Room) s m args below meth c cJ5_append_3fe6f 2 RJ5 D sE (sKd cp N) tc ad sRh sa (gA sE ad sz) s.heap 0 0 (MQ below (gQG D tc sE ad sz (sPo ad (some (.ref (ad 0 0))) (sb_cat t n (fun _ => ch)) (n + 1) (sb_cap (n + 1) cp))) args s (sMc (n + 1) cp) (sMs (n + 1) cp) (gA sE ad sz)) (sM n ml arr) 0 [(0, .ref (ad 0 0)), (1, .int (nI ch))] []
  refine J_aload_n (i := 0) (q := 0) (pc1 := 1) dJ5_append_3fe6f_0 rfl rfl rfl ?_
  refine J_aload_n (i := 0) (q := 0) (pc1 := 2) dJ5_append_3fe6f_1 rfl rfl rfl ?_
  refine J_getV (T := TJ4) (pc1 := 5) 3 (v := nI n) (rfl) sE0 rfl rfl inJ4 (by decide) rfl flJ5_79 rfl dJ5_append_3fe6f_2 rfl ?_
  refine J_iconst (v := 1) (pc1 := 6) dJ5_append_3fe6f_5 (by decide) rfl ?_
  refine J_iadd (pc1 := 7) dJ5_append_3fe6f_6 rfl ?_
  refine J_eqI (y := nI (n + 1)) (nI_1 n) ?_
  refine J_runN (pc1 := 10) (ce := sMc (n + 1) cp) (sl := sMs (n + 1) cp) (J_hU (st := []) (As := [.int (nI (n + 1))]) (kJ5_ensure l D tc sa hI (N := N) (q := n + 1) (t := t) hm hq hnm hL hf) wuJ5_100 (fun hb => hb _ slb0) rfl sE0 rfl rfl rfl ⟨Nat.le_of_ble_eq_true rfl, Nat.le_of_ble_eq_true rfl⟩ ⟨Nat.le_of_eq (Nat.zero_add _), Nat.le_of_eq (Nat.zero_add _)⟩ (Nat.le_of_ble_eq_true rfl) dJ5_append_3fe6f_7) rfl (Nat.zero_add _) (Nat.zero_add _) (fun o1 E1 kd1 ad1 rh1 μ1 hp hI1 hfr => ?_)
  obtain ⟨rfl, rfl, h00, ⟨N1, rfl⟩, rfl, ml1, arr1, rfl, hL1, hf1⟩ := hp
  show J p l e _ s m args below meth c _ 2 RJ5 D _ _ tc ad1 sRh sa _ s.heap (sMc (n + 1) cp) (sMs (n + 1) cp) _ _ 10 [(0, .ref (ad 0 0)), (1, .int (nI ch))] []
  rw [show (Value.ref (ad 0 0)) = .ref (ad1 0 0) from congrArg Value.ref h00.symm]
  refine J_aload_n (i := 0) (q := 0) (pc1 := 11) dJ5_append_3fe6f_10 rfl rfl rfl ?_
  refine J_runM (o := some (.int 1)) (pc1 := 14) (st1 := [.int 1]) (ce := sMc (n + 1) cp) (sl := sMs (n + 1) cp) (J_hU (st := []) (As := []) (kJ5_isLatin1 l D tc sa hI1 (N := N1) (n := n) (cp := (sb_cap (n + 1) cp)) (ml := ml1) (arr := arr1)) wuJ5_83 (fun hb => hb _ slJ4_J5_isLatin1_aae02_J5_isLatin1_aae02) rfl sE0 rfl rfl rfl ⟨Nat.le_of_ble_eq_true rfl, Nat.le_of_ble_eq_true rfl⟩ ⟨Nat.le_refl _, Nat.le_refl _⟩ (Nat.le_of_ble_eq_true rfl) dJ5_append_3fe6f_11) rfl rfl rfl rfl ?_
  refine J_if_eq (tgt := 45) (pc1 := 17) dJ5_append_3fe6f_14 (by decide) (fun qq => absurd qq (by decide)) rfl (fun qq => ?_)
  refine J_iload_n (i := 1) (q := 1) (pc1 := 18) dJ5_append_3fe6f_17 rfl rfl rfl ?_
  refine J_callS (As := [.int (nI ch)]) (pc1 := 21) (st := []) (st1 := [.int 1]) (kJ1_canEncode l D tc sa hI1 _ hc) wcJ1_canEncode_fc78d wlJ5_191 rfl ⟨rfl, rfl, Nat.le_of_ble_eq_true rfl, Nat.le_of_ble_eq_true rfl⟩ ⟨Nat.le_refl _, Nat.le_refl _⟩ (Nat.le_of_ble_eq_true rfl) dJ5_append_3fe6f_18 rfl rfl ?_
  refine J_if_eq (tgt := 45) (pc1 := 24) dJ5_append_3fe6f_21 (by decide) (fun qq => absurd qq (by decide)) rfl (fun qq => ?_)
  refine J_aload_n (i := 0) (q := 0) (pc1 := 25) dJ5_append_3fe6f_24 rfl rfl rfl ?_
  refine J_getR (T := TJ4) (f' := 1) (i' := 0) (pc1 := 28) sE0 rfl rfl inJ4 0 (by decide) rfl (rfl) flJ5_15 rfl dJ5_append_3fe6f_25 rfl ?_
  refine J_aload_n (i := 0) (q := 0) (pc1 := 29) dJ5_append_3fe6f_28 rfl rfl rfl ?_
  refine J_dup (pc1 := 30) dJ5_append_3fe6f_29 rfl rfl ?_
  refine J_getV (T := TJ4) (pc1 := 33) 3 (v := nI n) (rfl) sE0 rfl rfl inJ4 (by decide) rfl flJ5_79 rfl dJ5_append_3fe6f_30 rfl ?_
  refine J_dup_x1 (pc1 := 34) dJ5_append_3fe6f_33 rfl rfl rfl ?_
  refine J_iconst (v := 1) (pc1 := 35) dJ5_append_3fe6f_34 (by decide) rfl ?_
  refine J_iadd (pc1 := 36) dJ5_append_3fe6f_35 rfl ?_
  refine J_eqI (y := nI (n + 1)) (nI_1 n) ?_
  refine J_putI (T := TJ4) (pc1 := 39) sE0 rfl rfl inJ4 tyJ4 tyJ4_ok nmJ4 3 (by decide) rfl (fun _ _ _ _ => rfl) flJ5_79 rfl rfl (rfl) (rfl) dJ5_append_3fe6f_36 rfl ?_
  rw [show w3 _ 0 0 3 _ = sM (n + 1) ml1 arr1 from sM_cnt]
  refine J_iload_n (i := 1) (q := 1) (pc1 := 40) dJ5_append_3fe6f_39 rfl rfl rfl ?_
  refine J_i2b (v := sb_b ch) (pc1 := 41) dJ5_append_3fe6f_40 rfl rfl ?_
  refine J_bast (ix := n) (z := sb_b ch) (pc1 := 42) (nI_clamp (by omega)) (sb_nb ch) sE1 rfl (vp_in_nI (by omega) (by omega)) dJ5_append_3fe6f_41 rfl ?_
  rw [sM_arr]
  refine J_goto (tgt := 75) dJ5_append_3fe6f_42 (by decide) ?_
  refine J_aload_n (i := 0) (q := 0) (pc1 := 76) dJ5_append_3fe6f_75 rfl rfl rfl ?_
  exact J_aretG hr hlk ⟨rfl, rfl, h00, ⟨N1, rfl⟩, rfl, ml1, _, rfl, sb_latPut hL1 (fun j hj => pk_un (by omega)) (fun i hi => by
    obtain rfl : i = 0 := by omega
    exact ⟨hc, pk_us⟩), sb_fitU hf1 (sb_fitB ch)⟩ hI1 (Nat.le_refl _) (Nat.le_refl _) dJ5_append_3fe6f_76
theorem kJ4_appendC {ad : Nat → Nat → Nat} (hI : gI sE ad) {N n cp : Nat} {ml : Int32} {arr : Nat → Int32} {ch : Nat} {t : Nat → Nat} (hc : ch < 256) (hm : cp ≤ 65536) (hq : sb_cap (n + 1) cp ≤ 65536) (hnm : n ≤ cp) (hL : sb_Lat t n arr) (hf : sb_Fit arr) : gMetG l yJ4_append_cf468 cJ4_append_cf468 2 (some (.object "java/lang/StringBuilder")) ({ frames := 7, cells := sMc (n + 1) cp, slots := sMs (n + 1) cp, locals := 500 } : Room) D sE (sKd cp N) tc ad sRh sa [.ref (ad 0 0), .int (nI ch)] (sM n ml arr) (sPo ad (some (.ref (ad 0 0))) (sb_cat t n (fun _ => ch)) (n + 1) (sb_cap (n + 1) cp)) := by
  refine gMetG_of hI ⟨by decide +kernel, Nat.le_of_ble_eq_true rfl⟩ (fun p e s m args below meth c sz hr hlk => ?_)
  show J p l e ({ frames := 7, cells := sMc (n + 1) cp, slots := sMs (n + 1) cp, locals := 500 } : Room) s m args below meth c cJ4_append_cf468 2 RJ4 D sE (sKd cp N) tc ad sRh sa (gA sE ad sz) s.heap 0 0 (MQ below (gQG D tc sE ad sz (sPo ad (some (.ref (ad 0 0))) (sb_cat t n (fun _ => ch)) (n + 1) (sb_cap (n + 1) cp))) args s (sMc (n + 1) cp) (sMs (n + 1) cp) (gA sE ad sz)) (sM n ml arr) 0 [(0, .ref (ad 0 0)), (1, .int (nI ch))] []
  refine J_aload_n (i := 0) (q := 0) (pc1 := 1) dJ4_append_cf468_0 rfl rfl rfl ?_
  refine J_iload_n (i := 1) (q := 1) (pc1 := 2) dJ4_append_cf468_1 rfl rfl rfl ?_
  refine J_runN (pc1 := 5) (ce := sMc (n + 1) cp) (sl := sMs (n + 1) cp) (J_hSU (st := []) (As := [.int (nI ch)]) (kJ5_appendC l D tc sa hI (N := N) (t := t) hc hm hq hnm hL hf) wpJ4_50 rfl sE0 rfl rfl rfl ⟨Nat.le_of_ble_eq_true rfl, Nat.le_of_ble_eq_true rfl⟩ ⟨Nat.le_of_eq (Nat.zero_add _), Nat.le_of_eq (Nat.zero_add _)⟩ (Nat.le_of_ble_eq_true rfl) dJ4_append_cf468_2) rfl (Nat.zero_add _) (Nat.zero_add _) (fun o1 E1 kd1 ad1 rh1 μ1 hp hI1 hfr => ?_)
  obtain ⟨rfl, rfl, h00, ⟨N1, rfl⟩, rfl, ml1, arr1, rfl, hL1, hf1⟩ := hp
  show J p l e _ s m args below meth c _ 2 RJ4 D _ _ tc ad1 sRh sa _ s.heap (sMc (n + 1) cp) (sMs (n + 1) cp) _ _ 5 [(0, .ref (ad 0 0)), (1, .int (nI ch))] [.ref (ad 0 0)]
  refine J_pop (pc1 := 6) dJ4_append_cf468_5 rfl rfl ?_
  refine J_aload_n (i := 0) (q := 0) (pc1 := 7) dJ4_append_cf468_6 rfl rfl rfl ?_
  exact J_aretG hr hlk ⟨rfl, rfl, h00, ⟨N1, rfl⟩, rfl, ml1, arr1, rfl, hL1, hf1⟩ hI1 (Nat.le_refl _) (Nat.le_refl _) dJ4_append_cf468_7
theorem kJ5_length {ad : Nat → Nat → Nat} (hI : gI sE ad) {N n cp : Nat} {ml : Int32} {arr : Nat → Int32} : gMetG l yJ5_length_8abf5 cJ5_length_8abf5 1 (some .int) ({ frames := 0, cells := 0, slots := 0, locals := 20 } : Room) D sE (sKd cp N) tc ad sRh sa [.ref (ad 0 0)] (sM n ml arr) (gSame sE (sKd cp N) ad sRh (some (.int (nI n))) (sM n ml arr)) := by
  refine gMetG_of hI ⟨by decide +kernel, Nat.le_of_ble_eq_true rfl⟩ (fun p e s m args below meth c sz hr hlk => ?_)
  show J p l e ({ frames := 0, cells := 0, slots := 0, locals := 20 } : Room) s m args below meth c cJ5_length_8abf5 1 RJ5 D sE (sKd cp N) tc ad sRh sa (gA sE ad sz) s.heap 0 0 (MQ below (gQG D tc sE ad sz (gSame sE (sKd cp N) ad sRh (some (.int (nI n))) (sM n ml arr))) args s (0) (0) (gA sE ad sz)) (sM n ml arr) 0 [(0, .ref (ad 0 0))] []
  refine J_aload_n (i := 0) (q := 0) (pc1 := 1) dJ5_length_8abf5_0 rfl rfl rfl ?_
  refine J_getV (T := TJ4) (pc1 := 4) 3 (v := nI n) (rfl) sE0 rfl rfl inJ4 (by decide) rfl flJ5_79 rfl dJ5_length_8abf5_1 rfl ?_
  exact J_iretG hr hlk ⟨rfl, rfl, rfl, rfl, rfl, rfl⟩ hI (Nat.le_refl _) (Nat.le_refl _) dJ5_length_8abf5_4
theorem kJ4_length {ad : Nat → Nat → Nat} (hI : gI sE ad) {N n cp : Nat} {ml : Int32} {arr : Nat → Int32} : gMetG l yJ4_length_8abf5 cJ4_length_8abf5 1 (some .int) ({ frames := 1, cells := 0, slots := 0, locals := 100 } : Room) D sE (sKd cp N) tc ad sRh sa [.ref (ad 0 0)] (sM n ml arr) (gSame sE (sKd cp N) ad sRh (some (.int (nI n))) (sM n ml arr)) := by
  refine gMetG_of hI ⟨by decide +kernel, Nat.le_of_ble_eq_true rfl⟩ (fun p e s m args below meth c sz hr hlk => ?_)
  show J p l e ({ frames := 1, cells := 0, slots := 0, locals := 100 } : Room) s m args below meth c cJ4_length_8abf5 1 RJ4 D sE (sKd cp N) tc ad sRh sa (gA sE ad sz) s.heap 0 0 (MQ below (gQG D tc sE ad sz (gSame sE (sKd cp N) ad sRh (some (.int (nI n))) (sM n ml arr))) args s (0) (0) (gA sE ad sz)) (sM n ml arr) 0 [(0, .ref (ad 0 0))] []
  refine J_aload_n (i := 0) (q := 0) (pc1 := 1) dJ4_length_8abf5_0 rfl rfl rfl ?_
  refine J_runM (o := some (.int (nI n))) (pc1 := 4) (st1 := [.int (nI n)]) (J_hSU (st := []) (As := []) (kJ5_length l D tc sa hI (N := N) (n := n) (cp := cp) (ml := ml) (arr := arr)) wpJ4_343 rfl sE0 rfl rfl rfl ⟨Nat.le_of_ble_eq_true rfl, Nat.le_of_ble_eq_true rfl⟩ ⟨Nat.le_refl _, Nat.le_refl _⟩ (Nat.le_of_ble_eq_true rfl) dJ4_length_8abf5_1) rfl rfl rfl rfl ?_
  exact J_iretG hr hlk ⟨rfl, rfl, rfl, rfl, rfl, rfl⟩ hI (Nat.le_refl _) (Nat.le_refl _) dJ4_length_8abf5_4
theorem kJ5_charAt {ad : Nat → Nat → Nat} (hI : gI sE ad) {N n cp : Nat} {ml : Int32} {arr : Nat → Int32} {i : Nat} {t : Nat → Nat} (hm : cp ≤ 65536) (hnm : n ≤ cp) (hi : i < n) (hL : sb_Lat t n arr) : gMetG l yJ5_charAt_5068e cJ5_charAt_5068e 5 (some .char) ({ frames := 2, cells := 0, slots := 0, locals := 100 } : Room) D sE (sKd cp N) tc ad sRh sa [.ref (ad 0 0), .int (nI i)] (sM n ml arr) (gSame sE (sKd cp N) ad sRh (some (.int (nI (t i)))) (sM n ml arr)) := by
  refine gMetG_of hI ⟨by decide +kernel, Nat.le_of_ble_eq_true rfl⟩ (fun p e s m args below meth c sz hr hlk => ?_)
  show J p l e ({ frames := 2, cells := 0, slots := 0, locals := 100 } : Room) s m args below meth c cJ5_charAt_5068e 5 RJ5 D sE (sKd cp N) tc ad sRh sa (gA sE ad sz) s.heap 0 0 (MQ below (gQG D tc sE ad sz (gSame sE (sKd cp N) ad sRh (some (.int (nI (t i)))) (sM n ml arr))) args s (0) (0) (gA sE ad sz)) (sM n ml arr) 0 [(0, .ref (ad 0 0)), (1, .int (nI i))] []
  refine J_aload_n (i := 0) (q := 0) (pc1 := 1) dJ5_charAt_5068e_0 rfl rfl rfl ?_
  refine J_getV (T := TJ4) (pc1 := 4) 1 (v := 0) (rfl) sE0 rfl rfl inJ4 (by decide) rfl flJ5_22 rfl dJ5_charAt_5068e_1 rfl ?_
  refine J_istore_n (i := 2) (lv1 := [(2, .int 0), (0, .ref (ad 0 0)), (1, .int (nI i))]) (pc1 := 5) dJ5_charAt_5068e_4 rfl (by decide) rfl rfl ?_
  refine J_aload_n (i := 0) (q := 1) (pc1 := 6) dJ5_charAt_5068e_5 rfl rfl rfl ?_
  refine J_getR (T := TJ4) (f' := 1) (i' := 0) (pc1 := 9) sE0 rfl rfl inJ4 0 (by decide) rfl (rfl) flJ5_15 rfl dJ5_charAt_5068e_6 rfl ?_
  refine J_astore_n (i := 3) (lv1 := [(3, .ref (ad 1 0)), (2, .int 0), (0, .ref (ad 0 0)), (1, .int (nI i))]) (pc1 := 10) dJ5_charAt_5068e_9 rfl (by decide) rfl rfl ?_
  refine J_aload_n (i := 0) (q := 2) (pc1 := 11) dJ5_charAt_5068e_10 rfl rfl rfl ?_
  refine J_getV (T := TJ4) (pc1 := 14) 3 (v := nI n) (rfl) sE0 rfl rfl inJ4 (by decide) rfl flJ5_79 rfl dJ5_charAt_5068e_11 rfl ?_
  refine J_aload_n (i := 3) (q := 0) (pc1 := 15) dJ5_charAt_5068e_14 rfl rfl rfl ?_
  refine J_alen (ty := .byte) (v := nI cp) (pc1 := 16) sE1 rfl rfl (rfl) dJ5_charAt_5068e_15 rfl ?_
  refine J_iload_n (i := 2) (q := 1) (pc1 := 17) dJ5_charAt_5068e_16 rfl rfl rfl ?_
  refine J_ishr (pc1 := 18) dJ5_charAt_5068e_17 rfl ?_
  refine J_eqI (y := nI cp) (sb_shr0 _) ?_
  refine J_mmin (pc1 := 21) sbwlMin5 sbstMin sbiniMath sbcdMin ⟨Nat.le_of_ble_eq_true rfl, Nat.le_of_ble_eq_true rfl, Nat.zero_le _, Nat.zero_le _⟩ dJ5_charAt_5068e_18 rfl ?_
  refine J_eqI (y := nI n) (if_neg (nI_nlt (by omega) (by omega))) ?_
  refine J_istore (i := 4) (lv1 := [(4, .int (nI n)), (3, .ref (ad 1 0)), (2, .int 0), (0, .ref (ad 0 0)), (1, .int (nI i))]) (pc1 := 23) dJ5_charAt_5068e_21 (by decide) rfl rfl ?_
  refine J_iload_n (i := 1) (q := 4) (pc1 := 24) dJ5_charAt_5068e_23 rfl rfl rfl ?_
  refine J_iload (i := 4) (q := 0) (pc1 := 26) dJ5_charAt_5068e_24 rfl rfl ?_
  refine J_callS (As := [.int (nI i), .int (nI n)]) (pc1 := 29) (st := []) (st1 := []) (kJ0_checkIndex l D sE (sKd cp N) tc sa ad sRh hI _ (nI_pos (by omega)) (nI_lt hi (by omega))) wcJ0_checkIndex_df160 wlJ5_144 rfl ⟨rfl, rfl, Nat.le_of_ble_eq_true rfl, Nat.le_of_ble_eq_true rfl⟩ ⟨Nat.zero_le _, Nat.zero_le _⟩ (Nat.le_of_ble_eq_true rfl) dJ5_charAt_5068e_26 rfl rfl ?_
  refine J_iload_n (i := 2) (q := 2) (pc1 := 30) dJ5_charAt_5068e_29 rfl rfl rfl ?_
  refine J_if_ne (tgt := 42) (pc1 := 33) dJ5_charAt_5068e_30 (by decide) (fun qq => absurd qq (fun z => z rfl)) rfl (fun qq => ?_)
  refine J_aload_n (i := 3) (q := 1) (pc1 := 34) dJ5_charAt_5068e_33 rfl rfl rfl ?_
  refine J_iload_n (i := 1) (q := 4) (pc1 := 35) dJ5_charAt_5068e_34 rfl rfl rfl ?_
  refine J_bald (ix := i) (v := arr i) (pc1 := 36) (nI_clamp (by omega)) rfl sE1 rfl (vp_in_nI (by omega) (by omega)) dJ5_charAt_5068e_35 rfl ?_
  refine J_sipush (v := 255) (pc1 := 39) dJ5_charAt_5068e_36 (by decide) rfl ?_
  refine J_iand (pc1 := 40) dJ5_charAt_5068e_39 rfl ?_
  refine J_eqI (y := nI (t i)) (by rw [(hL i hi).2]; exact (sb_byte _ (hL i hi).1).1) ?_
  refine J_i2c (pc1 := 41) dJ5_charAt_5068e_40 rfl ?_
  refine J_eqI (y := nI (t i)) ((sb_byte _ (hL i hi).1).2.1) ?_
  exact J_cretG (Value.int.inj (pk_charN (by have := (hL i hi).1; omega)).1) hr hlk ⟨rfl, rfl, rfl, rfl, rfl, rfl⟩ hI (Nat.le_refl _) (Nat.le_refl _) dJ5_charAt_5068e_41
theorem kJ4_charAt {ad : Nat → Nat → Nat} (hI : gI sE ad) {N n cp : Nat} {ml : Int32} {arr : Nat → Int32} {i : Nat} {t : Nat → Nat} (hm : cp ≤ 65536) (hnm : n ≤ cp) (hi : i < n) (hL : sb_Lat t n arr) : gMetG l yJ4_charAt_5068e cJ4_charAt_5068e 2 (some .char) ({ frames := 3, cells := 0, slots := 0, locals := 200 } : Room) D sE (sKd cp N) tc ad sRh sa [.ref (ad 0 0), .int (nI i)] (sM n ml arr) (gSame sE (sKd cp N) ad sRh (some (.int (nI (t i)))) (sM n ml arr)) := by
  refine gMetG_of hI ⟨by decide +kernel, Nat.le_of_ble_eq_true rfl⟩ (fun p e s m args below meth c sz hr hlk => ?_)
  show J p l e ({ frames := 3, cells := 0, slots := 0, locals := 200 } : Room) s m args below meth c cJ4_charAt_5068e 2 RJ4 D sE (sKd cp N) tc ad sRh sa (gA sE ad sz) s.heap 0 0 (MQ below (gQG D tc sE ad sz (gSame sE (sKd cp N) ad sRh (some (.int (nI (t i)))) (sM n ml arr))) args s (0) (0) (gA sE ad sz)) (sM n ml arr) 0 [(0, .ref (ad 0 0)), (1, .int (nI i))] []
  refine J_aload_n (i := 0) (q := 0) (pc1 := 1) dJ4_charAt_5068e_0 rfl rfl rfl ?_
  refine J_iload_n (i := 1) (q := 1) (pc1 := 2) dJ4_charAt_5068e_1 rfl rfl rfl ?_
  refine J_runM (o := some (.int (nI (t i)))) (pc1 := 5) (st1 := [.int (nI (t i))]) (J_hSU (st := []) (As := [.int (nI i)]) (kJ5_charAt l D tc sa hI (N := N) (ml := ml) hm hnm hi hL) wpJ4_329 rfl sE0 rfl rfl rfl ⟨Nat.le_of_ble_eq_true rfl, Nat.le_of_ble_eq_true rfl⟩ ⟨Nat.le_refl _, Nat.le_refl _⟩ (Nat.le_of_ble_eq_true rfl) dJ4_charAt_5068e_2) rfl rfl rfl rfl ?_
  exact J_cretG (Value.int.inj (pk_charN (by have := (hL i hi).1; omega)).1) hr hlk ⟨rfl, rfl, rfl, rfl, rfl, rfl⟩ hI (Nat.le_refl _) (Nat.le_refl _) dJ4_charAt_5068e_5
theorem kJ5_setLength {ad : Nat → Nat → Nat} (hI : gI sE ad) {N n cp : Nat} {ml : Int32} {arr : Nat → Int32} {t : Nat → Nat} (hm : cp ≤ 65536) (hnm : n ≤ cp) (hL : sb_Lat t n arr) (hf : sb_Fit arr) : gMetG l yJ5_setLength_d00df cJ5_setLength_d00df 2 none ({ frames := 6, cells := 0, slots := 0, locals := 400 } : Room) D sE (sKd cp N) tc ad sRh sa [.ref (ad 0 0), .int (nI 0)] (sM n ml arr) (sPo ad none t 0 cp) := by
  refine gMetG_of hI ⟨by decide +kernel, Nat.le_of_ble_eq_true rfl⟩ (fun p e s m args below meth c sz hr hlk => ?_)
  show J p l e ({ frames := 6, cells := 0, slots := 0, locals := 400 } : Room) s m args below meth c cJ5_setLength_d00df 2 RJ5 D sE (sKd cp N) tc ad sRh sa (gA sE ad sz) s.heap 0 0 (MQ below (gQG D tc sE ad sz (sPo ad none t 0 cp)) args s (0) (0) (gA sE ad sz)) (sM n ml arr) 0 [(0, .ref (ad 0 0)), (1, .int (nI 0))] []
  refine J_iload_n (i := 1) (q := 1) (pc1 := 1) dJ5_setLength_d00df_0 rfl rfl rfl ?_
  refine J_if_ge (tgt := 13) (pc1 := 4) dJ5_setLength_d00df_1 (by decide) (fun qq => ?_) rfl (fun qq => absurd (by decide) qq)
  refine J_aload_n (i := 0) (q := 0) (pc1 := 14) dJ5_setLength_d00df_13 rfl rfl rfl ?_
  refine J_iload_n (i := 1) (q := 1) (pc1 := 15) dJ5_setLength_d00df_14 rfl rfl rfl ?_
  have e0 : sMc 0 cp = 0 := if_pos (Nat.zero_le _)
  have e1 : sMs 0 cp = 0 := if_pos (Nat.zero_le _)
  have e2 : sb_cap 0 cp = cp := if_pos (Nat.zero_le _)
  refine J_runN (pc1 := 18) (ce := 0) (sl := 0) (J_hU (st := []) (As := [.int (nI 0)]) (kJ5_ensure l D tc sa hI (N := N) (q := 0) (t := t) hm (by omega) hnm hL hf) wuJ5_100 (fun hb => hb _ slb0) rfl sE0 rfl rfl rfl ⟨Nat.le_of_ble_eq_true rfl, Nat.le_of_ble_eq_true rfl⟩ ⟨by show 0 + sMc 0 cp ≤ 0; omega, by show 0 + sMs 0 cp ≤ 0; omega⟩ (Nat.le_of_ble_eq_true rfl) dJ5_setLength_d00df_15) rfl (by show 0 + sMc 0 cp = 0; omega) (by show 0 + sMs 0 cp = 0; omega) (fun o1 E1 kd1 ad1 rh1 μ1 hp hI1 hfr => ?_)
  obtain ⟨rfl, rfl, h00, ⟨N1, rfl⟩, rfl, ml1, arr1, rfl, hL1, hf1⟩ := hp
  rw [e2]
  show J p l e _ s m args below meth c _ 2 RJ5 D _ _ tc ad1 sRh sa _ s.heap 0 0 _ _ 18 [(0, .ref (ad 0 0)), (1, .int (nI 0))] []
  rw [show (Value.ref (ad 0 0)) = .ref (ad1 0 0) from congrArg Value.ref h00.symm]
  refine J_aload_n (i := 0) (q := 0) (pc1 := 19) dJ5_setLength_d00df_18 rfl rfl rfl ?_
  refine J_getV (T := TJ4) (pc1 := 22) 3 (v := nI n) (rfl) sE0 rfl rfl inJ4 (by decide) rfl flJ5_79 rfl dJ5_setLength_d00df_19 rfl ?_
  refine J_iload_n (i := 1) (q := 1) (pc1 := 23) dJ5_setLength_d00df_22 rfl rfl rfl ?_
  refine J_icmp_ge (tgt := 63) (pc1 := 26) dJ5_setLength_d00df_23 (by decide) (fun qq => ?_) rfl (fun qq => absurd (nI_pos' (by omega)) qq)
  refine J_aload_n (i := 0) (q := 0) (pc1 := 64) dJ5_setLength_d00df_63 rfl rfl rfl ?_
  refine J_getV (T := TJ4) (pc1 := 67) 3 (v := nI n) (rfl) sE0 rfl rfl inJ4 (by decide) rfl flJ5_79 rfl dJ5_setLength_d00df_64 rfl ?_
  refine J_iload_n (i := 1) (q := 1) (pc1 := 68) dJ5_setLength_d00df_67 rfl rfl rfl ?_
  by_cases hn0 : n = 0
  · subst hn0
    refine J_icmp_le (tgt := 76) (pc1 := 71) dJ5_setLength_d00df_68 (by decide) (fun qq => ?_) rfl (fun qq => absurd (Int32.le_refl _) qq)
    refine J_aload_n (i := 0) (q := 0) (pc1 := 77) dJ5_setLength_d00df_76 rfl rfl rfl ?_
    refine J_iload_n (i := 1) (q := 1) (pc1 := 78) dJ5_setLength_d00df_77 rfl rfl rfl ?_
    refine J_putI (T := TJ4) (pc1 := 81) sE0 rfl rfl inJ4 tyJ4 tyJ4_ok nmJ4 3 (by decide) rfl (fun _ _ _ _ => rfl) flJ5_79 rfl rfl (rfl) (rfl) dJ5_setLength_d00df_78 rfl ?_
    rw [show w3 _ 0 0 3 _ = sM 0 ml1 arr1 from sM_cnt]
    exact J_vretG hr hlk ⟨rfl, rfl, h00, ⟨N1, rfl⟩, rfl, _, arr1, rfl, fun j hj => absurd hj (Nat.not_lt_zero j), hf1⟩ hI1 (Nat.le_refl _) (Nat.le_refl _) dJ5_setLength_d00df_81
  · have hn1 : ¬ nI n ≤ nI 0 := fun z => hn0 (by have := (nI_leI (by omega) (by omega)).mp z; omega)
    refine J_icmp_le (tgt := 76) (pc1 := 71) dJ5_setLength_d00df_68 (by decide) (fun qq => absurd qq (hn1)) rfl (fun qq => ?_)
    refine J_aload_n (i := 0) (q := 0) (pc1 := 72) dJ5_setLength_d00df_71 rfl rfl rfl ?_
    refine J_iconst (v := 1) (pc1 := 73) dJ5_setLength_d00df_72 (by decide) rfl ?_
    refine J_putI (T := TJ4) (pc1 := 76) sE0 rfl rfl inJ4 tyJ4 tyJ4_ok nmJ4 2 (by decide) rfl (fun _ _ _ _ => rfl) flJ5_73 rfl rfl (rfl) (rfl) dJ5_setLength_d00df_73 rfl ?_
    rw [show w3 _ 0 0 2 _ = sM n 1 arr1 from sM_ml]
    refine J_aload_n (i := 0) (q := 0) (pc1 := 77) dJ5_setLength_d00df_76 rfl rfl rfl ?_
    refine J_iload_n (i := 1) (q := 1) (pc1 := 78) dJ5_setLength_d00df_77 rfl rfl rfl ?_
    refine J_putI (T := TJ4) (pc1 := 81) sE0 rfl rfl inJ4 tyJ4 tyJ4_ok nmJ4 3 (by decide) rfl (fun _ _ _ _ => rfl) flJ5_79 rfl rfl (rfl) (rfl) dJ5_setLength_d00df_78 rfl ?_
    rw [show w3 _ 0 0 3 _ = sM 0 1 arr1 from sM_cnt]
    exact J_vretG hr hlk ⟨rfl, rfl, h00, ⟨N1, rfl⟩, rfl, _, arr1, rfl, fun j hj => absurd hj (Nat.not_lt_zero j), hf1⟩ hI1 (Nat.le_refl _) (Nat.le_refl _) dJ5_setLength_d00df_81
theorem kJ4_setLength {ad : Nat → Nat → Nat} (hI : gI sE ad) {N n cp : Nat} {ml : Int32} {arr : Nat → Int32} {t : Nat → Nat} (hm : cp ≤ 65536) (hnm : n ≤ cp) (hL : sb_Lat t n arr) (hf : sb_Fit arr) : gMetG l yJ4_setLength_d00df cJ4_setLength_d00df 2 none ({ frames := 7, cells := 0, slots := 0, locals := 500 } : Room) D sE (sKd cp N) tc ad sRh sa [.ref (ad 0 0), .int (nI 0)] (sM n ml arr) (sPo ad none t 0 cp) := by
  refine gMetG_of hI ⟨by decide +kernel, Nat.le_of_ble_eq_true rfl⟩ (fun p e s m args below meth c sz hr hlk => ?_)
  show J p l e ({ frames := 7, cells := 0, slots := 0, locals := 500 } : Room) s m args below meth c cJ4_setLength_d00df 2 RJ4 D sE (sKd cp N) tc ad sRh sa (gA sE ad sz) s.heap 0 0 (MQ below (gQG D tc sE ad sz (sPo ad none t 0 cp)) args s (0) (0) (gA sE ad sz)) (sM n ml arr) 0 [(0, .ref (ad 0 0)), (1, .int (nI 0))] []
  refine J_aload_n (i := 0) (q := 0) (pc1 := 1) dJ4_setLength_d00df_0 rfl rfl rfl ?_
  refine J_iload_n (i := 1) (q := 1) (pc1 := 2) dJ4_setLength_d00df_1 rfl rfl rfl ?_
  refine J_runN (pc1 := 5) (ce := 0) (sl := 0) (J_hSU (st := []) (As := [.int (nI 0)]) (kJ5_setLength l D tc sa hI (N := N) (t := t) hm hnm hL hf) wpJ4_333 rfl sE0 rfl rfl rfl ⟨Nat.le_of_ble_eq_true rfl, Nat.le_of_ble_eq_true rfl⟩ ⟨Nat.le_of_eq (Nat.zero_add _), Nat.le_of_eq (Nat.zero_add _)⟩ (Nat.le_of_ble_eq_true rfl) dJ4_setLength_d00df_2) rfl (Nat.zero_add _) (Nat.zero_add _) (fun o1 E1 kd1 ad1 rh1 μ1 hp hI1 hfr => ?_)
  obtain ⟨rfl, rfl, h00, ⟨N1, rfl⟩, rfl, ml1, arr1, rfl, hL1, hf1⟩ := hp
  exact J_vretG hr hlk ⟨rfl, rfl, h00, ⟨N1, rfl⟩, rfl, ml1, arr1, rfl, hL1, hf1⟩ hI1 (Nat.le_refl _) (Nat.le_refl _) dJ4_setLength_d00df_5
end SB5
