/-! append(int) -/
section SB6c
variable (l : Launch) (D : va_G) (tc : Nat → ClassId) (sa : Nat → Nat)
theorem kJ5_appendI {ad : Nat → Nat → Nat} (hI : gI sE ad) {N n cp : Nat} {ml : Int32} {arr : Nat → Int32} {v : Nat} {t : Nat → Nat} (hv : v < 2 ^ 31) (hm : cp ≤ 65536) (hq : sb_cap (n + (sb_dg v)) cp ≤ 65536) (hnm : n ≤ cp) (hL : sb_Lat t n arr) (hf : sb_Fit arr) : gMetG l yJ5_append_c97b9 cJ5_append_c97b9 4 (some (.object "java/lang/AbstractStringBuilder")) ({ frames := 6, cells := sMc (n + (sb_dg v)) cp, slots := sMs (n + (sb_dg v)) cp, locals := 400 } : Room) D sE (sKd cp N) tc ad sRh sa [.ref (ad 0 0), .int (nI v)] (sM n ml arr) (sPo ad (some (.ref (ad 0 0))) (sb_cat t n (sb_dec v)) (n + (sb_dg v)) (sb_cap (n + (sb_dg v)) cp)) := by
  have hq1 := sb_cap_ge (n + (sb_dg v)) cp
  have hdv := sb_dg_in v
  refine gMetG_of hI ⟨by decide +kernel, Nat.le_of_ble_eq_true rfl⟩ (fun p e s m args below meth c sz hr hlk => ?_)
  show J p l e ({ frames := 6, cells := sMc (n + (sb_dg v)) cp, slots := sMs (n + (sb_dg v)) cp, locals := 400 } : Room) s m args below meth c cJ5_append_c97b9 4 RJ5 D sE (sKd cp N) tc ad sRh sa (gA sE ad sz) s.heap 0 0 (MQ below (gQG D tc sE ad sz (sPo ad (some (.ref (ad 0 0))) (sb_cat t n (sb_dec v)) (n + (sb_dg v)) (sb_cap (n + (sb_dg v)) cp))) args s (sMc (n + (sb_dg v)) cp) (sMs (n + (sb_dg v)) cp) (gA sE ad sz)) (sM n ml arr) 0 [(0, .ref (ad 0 0)), (1, .int (nI v))] []
  refine J_aload_n (i := 0) (q := 0) (pc1 := 1) dJ5_append_c97b9_0 rfl rfl rfl ?_
  refine J_getV (T := TJ4) (pc1 := 4) 3 (v := nI n) (rfl) sE0 rfl rfl inJ4 (by decide) rfl flJ5_79 rfl dJ5_append_c97b9_1 rfl ?_
  refine J_istore_n (i := 2) (lv1 := [(2, .int (nI n)), (0, .ref (ad 0 0)), (1, .int (nI v))]) (pc1 := 5) dJ5_append_c97b9_4 rfl (by decide) rfl rfl ?_
  refine J_iload_n (i := 2) (q := 0) (pc1 := 6) dJ5_append_c97b9_5 rfl rfl rfl ?_
  refine J_iload_n (i := 1) (q := 2) (pc1 := 7) dJ5_append_c97b9_6 rfl rfl rfl ?_
  refine J_callS (As := [.int (nI v)]) (pc1 := 10) (st := [.int (nI n)]) (st1 := [.int (nI (sb_dg v + 0)), .int (nI n)]) (kJ6_stringSize l D tc sa hI _ hv) wcJ6_stringSize_0f7a4 wlJ5_245 rfl ⟨rfl, rfl, Nat.le_of_ble_eq_true rfl, Nat.le_of_ble_eq_true rfl⟩ ⟨Nat.zero_le _, Nat.zero_le _⟩ (Nat.le_of_ble_eq_true rfl) dJ5_append_c97b9_7 rfl rfl ?_
  refine J_iadd (pc1 := 11) dJ5_append_c97b9_10 rfl ?_
  refine J_eqI (y := nI (n + (sb_dg v))) (nI_add _ _) ?_
  refine J_istore_n (i := 3) (lv1 := [(3, .int (nI (n + (sb_dg v)))), (2, .int (nI n)), (0, .ref (ad 0 0)), (1, .int (nI v))]) (pc1 := 12) dJ5_append_c97b9_11 rfl (by decide) rfl rfl ?_
  refine J_aload_n (i := 0) (q := 2) (pc1 := 13) dJ5_append_c97b9_12 rfl rfl rfl ?_
  refine J_iload_n (i := 3) (q := 0) (pc1 := 14) dJ5_append_c97b9_13 rfl rfl rfl ?_
  refine J_runN (pc1 := 17) (ce := sMc (n + (sb_dg v)) cp) (sl := sMs (n + (sb_dg v)) cp) (J_hU (st := []) (As := [.int (nI (n + (sb_dg v)))]) (kJ5_ensure l D tc sa hI (N := N) (q := n + (sb_dg v)) (t := t) hm hq hnm hL hf) wuJ5_100 (fun hb => hb _ slb0) rfl sE0 rfl rfl rfl ⟨Nat.le_of_ble_eq_true rfl, Nat.le_of_ble_eq_true rfl⟩ ⟨Nat.le_of_eq (Nat.zero_add _), Nat.le_of_eq (Nat.zero_add _)⟩ (Nat.le_of_ble_eq_true rfl) dJ5_append_c97b9_14) rfl (Nat.zero_add _) (Nat.zero_add _) (fun o1 E1 kd1 ad1 rh1 μ1 hp hI1 hfr => ?_)
  obtain ⟨rfl, rfl, h00, ⟨N1, rfl⟩, rfl, ml1, arr1, rfl, hL1, hf1⟩ := hp
  show J p l e _ s m args below meth c _ 4 RJ5 D _ _ tc ad1 sRh sa _ s.heap (sMc (n + (sb_dg v)) cp) (sMs (n + (sb_dg v)) cp) _ _ 17 [(3, .int (nI (n + (sb_dg v)))), (2, .int (nI n)), (0, .ref (ad 0 0)), (1, .int (nI v))] []
  rw [show (Value.ref (ad 0 0)) = .ref (ad1 0 0) from congrArg Value.ref h00.symm]
  refine J_aload_n (i := 0) (q := 2) (pc1 := 18) dJ5_append_c97b9_17 rfl rfl rfl ?_
  refine J_runM (o := some (.int 1)) (pc1 := 21) (st1 := [.int 1]) (ce := sMc (n + (sb_dg v)) cp) (sl := sMs (n + (sb_dg v)) cp) (J_hU (st := []) (As := []) (kJ5_isLatin1 l D tc sa hI1 (N := N1) (n := n) (cp := (sb_cap (n + (sb_dg v)) cp)) (ml := ml1) (arr := arr1)) wuJ5_83 (fun hb => hb _ slJ4_J5_isLatin1_aae02_J5_isLatin1_aae02) rfl sE0 rfl rfl rfl ⟨Nat.le_of_ble_eq_true rfl, Nat.le_of_ble_eq_true rfl⟩ ⟨Nat.le_refl _, Nat.le_refl _⟩ (Nat.le_of_ble_eq_true rfl) dJ5_append_c97b9_18) rfl rfl rfl rfl ?_
  refine J_if_eq (tgt := 37) (pc1 := 24) dJ5_append_c97b9_21 (by decide) (fun qq => absurd qq (by decide)) rfl (fun qq => ?_)
  refine J_iload_n (i := 1) (q := 3) (pc1 := 25) dJ5_append_c97b9_24 rfl rfl rfl ?_
  refine J_iload_n (i := 3) (q := 0) (pc1 := 26) dJ5_append_c97b9_25 rfl rfl rfl ?_
  refine J_aload_n (i := 0) (q := 2) (pc1 := 27) dJ5_append_c97b9_26 rfl rfl rfl ?_
  refine J_getR (T := TJ4) (f' := 1) (i' := 0) (pc1 := 30) sE0 rfl rfl inJ4 0 (by decide) rfl (rfl) flJ5_15 rfl dJ5_append_c97b9_27 rfl ?_
  refine J_runN (pc1 := 33) (ce := sMc (n + (sb_dg v)) cp) (sl := sMs (n + (sb_dg v)) cp) (J_hS (st := []) (As := [.int (nI v), .int (nI (n + (sb_dg v))), .ref (ad1 1 0)]) (kJ6_getChars l D tc sa hI1 (N := N1) (n := n) (n0 := n) (ml := ml1) (arr := arr1) hq hv rfl hq1) wcJ6_getChars_ba4f3 wlJ5_248 rfl ⟨Nat.le_of_ble_eq_true rfl, Nat.le_of_ble_eq_true rfl⟩ ⟨Nat.le_refl _, Nat.le_refl _⟩ (Nat.le_of_ble_eq_true rfl) dJ5_append_c97b9_30) rfl rfl rfl (fun o2 E2 kd2 ad2 rh2 μ2 hp2 hI2 hfr2 => ?_)
  obtain ⟨rfl, rfl, rfl, rfl, rfl, a2, rfl, g1, g2, g3⟩ := hp2
  show J p l e _ s m args below meth c _ 4 RJ5 D _ _ tc ad2 sRh sa _ s.heap (sMc (n + (sb_dg v)) cp) (sMs (n + (sb_dg v)) cp) _ _ 33 [(3, .int (nI (n + (sb_dg v)))), (2, .int (nI n)), (0, .ref (ad2 0 0)), (1, .int (nI v))] [.int (nI n)]
  refine J_pop (pc1 := 34) dJ5_append_c97b9_33 rfl rfl ?_
  refine J_goto (tgt := 48) dJ5_append_c97b9_34 (by decide) ?_
  refine J_aload_n (i := 0) (q := 2) (pc1 := 49) dJ5_append_c97b9_48 rfl rfl rfl ?_
  refine J_iload_n (i := 3) (q := 0) (pc1 := 50) dJ5_append_c97b9_49 rfl rfl rfl ?_
  refine J_putI (T := TJ4) (pc1 := 53) sE0 rfl rfl inJ4 tyJ4 tyJ4_ok nmJ4 3 (by decide) rfl (fun _ _ _ _ => rfl) flJ5_79 rfl rfl (rfl) (rfl) dJ5_append_c97b9_50 rfl ?_
  rw [show w3 _ 0 0 3 _ = sM (n + (sb_dg v)) ml1 a2 from sM_cnt]
  refine J_aload_n (i := 0) (q := 2) (pc1 := 54) dJ5_append_c97b9_53 rfl rfl rfl ?_
  exact J_aretG hr hlk ⟨rfl, rfl, h00, ⟨N1, rfl⟩, rfl, ml1, a2, rfl, sb_latPut hL1 (fun j hj => g1 j hj) (fun i hi => g2 i hi), g3 hf1⟩ hI2 (Nat.le_refl _) (Nat.le_refl _) dJ5_append_c97b9_54
theorem kJ4_appendI {ad : Nat → Nat → Nat} (hI : gI sE ad) {N n cp : Nat} {ml : Int32} {arr : Nat → Int32} {v : Nat} {t : Nat → Nat} (hv : v < 2 ^ 31) (hm : cp ≤ 65536) (hq : sb_cap (n + (sb_dg v)) cp ≤ 65536) (hnm : n ≤ cp) (hL : sb_Lat t n arr) (hf : sb_Fit arr) : gMetG l yJ4_append_bf812 cJ4_append_bf812 2 (some (.object "java/lang/StringBuilder")) ({ frames := 7, cells := sMc (n + (sb_dg v)) cp, slots := sMs (n + (sb_dg v)) cp, locals := 500 } : Room) D sE (sKd cp N) tc ad sRh sa [.ref (ad 0 0), .int (nI v)] (sM n ml arr) (sPo ad (some (.ref (ad 0 0))) (sb_cat t n (sb_dec v)) (n + (sb_dg v)) (sb_cap (n + (sb_dg v)) cp)) := by
  refine gMetG_of hI ⟨by decide +kernel, Nat.le_of_ble_eq_true rfl⟩ (fun p e s m args below meth c sz hr hlk => ?_)
  show J p l e ({ frames := 7, cells := sMc (n + (sb_dg v)) cp, slots := sMs (n + (sb_dg v)) cp, locals := 500 } : Room) s m args below meth c cJ4_append_bf812 2 RJ4 D sE (sKd cp N) tc ad sRh sa (gA sE ad sz) s.heap 0 0 (MQ below (gQG D tc sE ad sz (sPo ad (some (.ref (ad 0 0))) (sb_cat t n (sb_dec v)) (n + (sb_dg v)) (sb_cap (n + (sb_dg v)) cp))) args s (sMc (n + (sb_dg v)) cp) (sMs (n + (sb_dg v)) cp) (gA sE ad sz)) (sM n ml arr) 0 [(0, .ref (ad 0 0)), (1, .int (nI v))] []
  refine J_aload_n (i := 0) (q := 0) (pc1 := 1) dJ4_append_bf812_0 rfl rfl rfl ?_
  refine J_iload_n (i := 1) (q := 1) (pc1 := 2) dJ4_append_bf812_1 rfl rfl rfl ?_
  refine J_runN (pc1 := 5) (ce := sMc (n + (sb_dg v)) cp) (sl := sMs (n + (sb_dg v)) cp) (J_hSU (st := []) (As := [.int (nI v)]) (kJ5_appendI l D tc sa hI (N := N) (t := t) hv hm hq hnm hL hf) wpJ4_53 rfl sE0 rfl rfl rfl ⟨Nat.le_of_ble_eq_true rfl, Nat.le_of_ble_eq_true rfl⟩ ⟨Nat.le_of_eq (Nat.zero_add _), Nat.le_of_eq (Nat.zero_add _)⟩ (Nat.le_of_ble_eq_true rfl) dJ4_append_bf812_2) rfl (Nat.zero_add _) (Nat.zero_add _) (fun o1 E1 kd1 ad1 rh1 μ1 hp hI1 hfr => ?_)
  obtain ⟨rfl, rfl, h00, ⟨N1, rfl⟩, rfl, ml1, arr1, rfl, hL1, hf1⟩ := hp
  show J p l e _ s m args below meth c _ 2 RJ4 D _ _ tc ad1 sRh sa _ s.heap (sMc (n + (sb_dg v)) cp) (sMs (n + (sb_dg v)) cp) _ _ 5 [(0, .ref (ad 0 0)), (1, .int (nI v))] [.ref (ad 0 0)]
  refine J_pop (pc1 := 6) dJ4_append_bf812_5 rfl rfl ?_
  refine J_aload_n (i := 0) (q := 0) (pc1 := 7) dJ4_append_bf812_6 rfl rfl rfl ?_
  exact J_aretG hr hlk ⟨rfl, rfl, h00, ⟨N1, rfl⟩, rfl, ml1, arr1, rfl, hL1, hf1⟩ hI1 (Nat.le_refl _) (Nat.le_refl _) dJ4_append_bf812_7
theorem kJ5_appendIN {ad : Nat → Nat → Nat} (hI : gI sE ad) {N n cp : Nat} {ml : Int32} {arr : Nat → Int32} {v : Nat} {t : Nat → Nat} (h0 : 0 < v) (hv : v ≤ 2 ^ 31) (hm : cp ≤ 65536) (hq : sb_cap (n + (sb_dg v + 1)) cp ≤ 65536) (hnm : n ≤ cp) (hL : sb_Lat t n arr) (hf : sb_Fit arr) : gMetG l yJ5_append_c97b9 cJ5_append_c97b9 4 (some (.object "java/lang/AbstractStringBuilder")) ({ frames := 6, cells := sMc (n + (sb_dg v + 1)) cp, slots := sMs (n + (sb_dg v + 1)) cp, locals := 400 } : Room) D sE (sKd cp N) tc ad sRh sa [.ref (ad 0 0), .int (-nI v)] (sM n ml arr) (sPo ad (some (.ref (ad 0 0))) (sb_cat t n (sb_decN v)) (n + (sb_dg v + 1)) (sb_cap (n + (sb_dg v + 1)) cp)) := by
  have hq1 := sb_cap_ge (n + (sb_dg v + 1)) cp
  have hdv := sb_dg_in v
  refine gMetG_of hI ⟨by decide +kernel, Nat.le_of_ble_eq_true rfl⟩ (fun p e s m args below meth c sz hr hlk => ?_)
  show J p l e ({ frames := 6, cells := sMc (n + (sb_dg v + 1)) cp, slots := sMs (n + (sb_dg v + 1)) cp, locals := 400 } : Room) s m args below meth c cJ5_append_c97b9 4 RJ5 D sE (sKd cp N) tc ad sRh sa (gA sE ad sz) s.heap 0 0 (MQ below (gQG D tc sE ad sz (sPo ad (some (.ref (ad 0 0))) (sb_cat t n (sb_decN v)) (n + (sb_dg v + 1)) (sb_cap (n + (sb_dg v + 1)) cp))) args s (sMc (n + (sb_dg v + 1)) cp) (sMs (n + (sb_dg v + 1)) cp) (gA sE ad sz)) (sM n ml arr) 0 [(0, .ref (ad 0 0)), (1, .int (-nI v))] []
  refine J_aload_n (i := 0) (q := 0) (pc1 := 1) dJ5_append_c97b9_0 rfl rfl rfl ?_
  refine J_getV (T := TJ4) (pc1 := 4) 3 (v := nI n) (rfl) sE0 rfl rfl inJ4 (by decide) rfl flJ5_79 rfl dJ5_append_c97b9_1 rfl ?_
  refine J_istore_n (i := 2) (lv1 := [(2, .int (nI n)), (0, .ref (ad 0 0)), (1, .int (-nI v))]) (pc1 := 5) dJ5_append_c97b9_4 rfl (by decide) rfl rfl ?_
  refine J_iload_n (i := 2) (q := 0) (pc1 := 6) dJ5_append_c97b9_5 rfl rfl rfl ?_
  refine J_iload_n (i := 1) (q := 2) (pc1 := 7) dJ5_append_c97b9_6 rfl rfl rfl ?_
  refine J_callS (As := [.int (-nI v)]) (pc1 := 10) (st := [.int (nI n)]) (st1 := [.int (nI (sb_dg v + 1)), .int (nI n)]) (kJ6_stringSizeN l D tc sa hI _ h0 hv) wcJ6_stringSize_0f7a4 wlJ5_245 rfl ⟨rfl, rfl, Nat.le_of_ble_eq_true rfl, Nat.le_of_ble_eq_true rfl⟩ ⟨Nat.zero_le _, Nat.zero_le _⟩ (Nat.le_of_ble_eq_true rfl) dJ5_append_c97b9_7 rfl rfl ?_
  refine J_iadd (pc1 := 11) dJ5_append_c97b9_10 rfl ?_
  refine J_eqI (y := nI (n + (sb_dg v + 1))) (nI_add _ _) ?_
  refine J_istore_n (i := 3) (lv1 := [(3, .int (nI (n + (sb_dg v + 1)))), (2, .int (nI n)), (0, .ref (ad 0 0)), (1, .int (-nI v))]) (pc1 := 12) dJ5_append_c97b9_11 rfl (by decide) rfl rfl ?_
  refine J_aload_n (i := 0) (q := 2) (pc1 := 13) dJ5_append_c97b9_12 rfl rfl rfl ?_
  refine J_iload_n (i := 3) (q := 0) (pc1 := 14) dJ5_append_c97b9_13 rfl rfl rfl ?_
  refine J_runN (pc1 := 17) (ce := sMc (n + (sb_dg v + 1)) cp) (sl := sMs (n + (sb_dg v + 1)) cp) (J_hU (st := []) (As := [.int (nI (n + (sb_dg v + 1)))]) (kJ5_ensure l D tc sa hI (N := N) (q := n + (sb_dg v + 1)) (t := t) hm hq hnm hL hf) wuJ5_100 (fun hb => hb _ slb0) rfl sE0 rfl rfl rfl ⟨Nat.le_of_ble_eq_true rfl, Nat.le_of_ble_eq_true rfl⟩ ⟨Nat.le_of_eq (Nat.zero_add _), Nat.le_of_eq (Nat.zero_add _)⟩ (Nat.le_of_ble_eq_true rfl) dJ5_append_c97b9_14) rfl (Nat.zero_add _) (Nat.zero_add _) (fun o1 E1 kd1 ad1 rh1 μ1 hp hI1 hfr => ?_)
  obtain ⟨rfl, rfl, h00, ⟨N1, rfl⟩, rfl, ml1, arr1, rfl, hL1, hf1⟩ := hp
  show J p l e _ s m args below meth c _ 4 RJ5 D _ _ tc ad1 sRh sa _ s.heap (sMc (n + (sb_dg v + 1)) cp) (sMs (n + (sb_dg v + 1)) cp) _ _ 17 [(3, .int (nI (n + (sb_dg v + 1)))), (2, .int (nI n)), (0, .ref (ad 0 0)), (1, .int (-nI v))] []
  rw [show (Value.ref (ad 0 0)) = .ref (ad1 0 0) from congrArg Value.ref h00.symm]
  refine J_aload_n (i := 0) (q := 2) (pc1 := 18) dJ5_append_c97b9_17 rfl rfl rfl ?_
  refine J_runM (o := some (.int 1)) (pc1 := 21) (st1 := [.int 1]) (ce := sMc (n + (sb_dg v + 1)) cp) (sl := sMs (n + (sb_dg v + 1)) cp) (J_hU (st := []) (As := []) (kJ5_isLatin1 l D tc sa hI1 (N := N1) (n := n) (cp := (sb_cap (n + (sb_dg v + 1)) cp)) (ml := ml1) (arr := arr1)) wuJ5_83 (fun hb => hb _ slJ4_J5_isLatin1_aae02_J5_isLatin1_aae02) rfl sE0 rfl rfl rfl ⟨Nat.le_of_ble_eq_true rfl, Nat.le_of_ble_eq_true rfl⟩ ⟨Nat.le_refl _, Nat.le_refl _⟩ (Nat.le_of_ble_eq_true rfl) dJ5_append_c97b9_18) rfl rfl rfl rfl ?_
  refine J_if_eq (tgt := 37) (pc1 := 24) dJ5_append_c97b9_21 (by decide) (fun qq => absurd qq (by decide)) rfl (fun qq => ?_)
  refine J_iload_n (i := 1) (q := 3) (pc1 := 25) dJ5_append_c97b9_24 rfl rfl rfl ?_
  refine J_iload_n (i := 3) (q := 0) (pc1 := 26) dJ5_append_c97b9_25 rfl rfl rfl ?_
  refine J_aload_n (i := 0) (q := 2) (pc1 := 27) dJ5_append_c97b9_26 rfl rfl rfl ?_
  refine J_getR (T := TJ4) (f' := 1) (i' := 0) (pc1 := 30) sE0 rfl rfl inJ4 0 (by decide) rfl (rfl) flJ5_15 rfl dJ5_append_c97b9_27 rfl ?_
  refine J_runN (pc1 := 33) (ce := sMc (n + (sb_dg v + 1)) cp) (sl := sMs (n + (sb_dg v + 1)) cp) (J_hS (st := []) (As := [.int (-nI v), .int (nI (n + (sb_dg v + 1))), .ref (ad1 1 0)]) (kJ6_getCharsN l D tc sa hI1 (N := N1) (n := n) (n0 := n) (ml := ml1) (arr := arr1) hq h0 hv rfl hq1) wcJ6_getChars_ba4f3 wlJ5_248 rfl ⟨Nat.le_of_ble_eq_true rfl, Nat.le_of_ble_eq_true rfl⟩ ⟨Nat.le_refl _, Nat.le_refl _⟩ (Nat.le_of_ble_eq_true rfl) dJ5_append_c97b9_30) rfl rfl rfl (fun o2 E2 kd2 ad2 rh2 μ2 hp2 hI2 hfr2 => ?_)
  obtain ⟨rfl, rfl, rfl, rfl, rfl, a2, rfl, g1, g2, g3⟩ := hp2
  show J p l e _ s m args below meth c _ 4 RJ5 D _ _ tc ad2 sRh sa _ s.heap (sMc (n + (sb_dg v + 1)) cp) (sMs (n + (sb_dg v + 1)) cp) _ _ 33 [(3, .int (nI (n + (sb_dg v + 1)))), (2, .int (nI n)), (0, .ref (ad2 0 0)), (1, .int (-nI v))] [.int (nI n)]
  refine J_pop (pc1 := 34) dJ5_append_c97b9_33 rfl rfl ?_
  refine J_goto (tgt := 48) dJ5_append_c97b9_34 (by decide) ?_
  refine J_aload_n (i := 0) (q := 2) (pc1 := 49) dJ5_append_c97b9_48 rfl rfl rfl ?_
  refine J_iload_n (i := 3) (q := 0) (pc1 := 50) dJ5_append_c97b9_49 rfl rfl rfl ?_
  refine J_putI (T := TJ4) (pc1 := 53) sE0 rfl rfl inJ4 tyJ4 tyJ4_ok nmJ4 3 (by decide) rfl (fun _ _ _ _ => rfl) flJ5_79 rfl rfl (rfl) (rfl) dJ5_append_c97b9_50 rfl ?_
  rw [show w3 _ 0 0 3 _ = sM (n + (sb_dg v + 1)) ml1 a2 from sM_cnt]
  refine J_aload_n (i := 0) (q := 2) (pc1 := 54) dJ5_append_c97b9_53 rfl rfl rfl ?_
  exact J_aretG hr hlk ⟨rfl, rfl, h00, ⟨N1, rfl⟩, rfl, ml1, a2, rfl, sb_latPut hL1 (fun j hj => g1 j hj) (fun i hi => g2 i hi), g3 hf1⟩ hI2 (Nat.le_refl _) (Nat.le_refl _) dJ5_append_c97b9_54
theorem kJ4_appendIN {ad : Nat → Nat → Nat} (hI : gI sE ad) {N n cp : Nat} {ml : Int32} {arr : Nat → Int32} {v : Nat} {t : Nat → Nat} (h0 : 0 < v) (hv : v ≤ 2 ^ 31) (hm : cp ≤ 65536) (hq : sb_cap (n + (sb_dg v + 1)) cp ≤ 65536) (hnm : n ≤ cp) (hL : sb_Lat t n arr) (hf : sb_Fit arr) : gMetG l yJ4_append_bf812 cJ4_append_bf812 2 (some (.object "java/lang/StringBuilder")) ({ frames := 7, cells := sMc (n + (sb_dg v + 1)) cp, slots := sMs (n + (sb_dg v + 1)) cp, locals := 500 } : Room) D sE (sKd cp N) tc ad sRh sa [.ref (ad 0 0), .int (-nI v)] (sM n ml arr) (sPo ad (some (.ref (ad 0 0))) (sb_cat t n (sb_decN v)) (n + (sb_dg v + 1)) (sb_cap (n + (sb_dg v + 1)) cp)) := by
  refine gMetG_of hI ⟨by decide +kernel, Nat.le_of_ble_eq_true rfl⟩ (fun p e s m args below meth c sz hr hlk => ?_)
  show J p l e ({ frames := 7, cells := sMc (n + (sb_dg v + 1)) cp, slots := sMs (n + (sb_dg v + 1)) cp, locals := 500 } : Room) s m args below meth c cJ4_append_bf812 2 RJ4 D sE (sKd cp N) tc ad sRh sa (gA sE ad sz) s.heap 0 0 (MQ below (gQG D tc sE ad sz (sPo ad (some (.ref (ad 0 0))) (sb_cat t n (sb_decN v)) (n + (sb_dg v + 1)) (sb_cap (n + (sb_dg v + 1)) cp))) args s (sMc (n + (sb_dg v + 1)) cp) (sMs (n + (sb_dg v + 1)) cp) (gA sE ad sz)) (sM n ml arr) 0 [(0, .ref (ad 0 0)), (1, .int (-nI v))] []
  refine J_aload_n (i := 0) (q := 0) (pc1 := 1) dJ4_append_bf812_0 rfl rfl rfl ?_
  refine J_iload_n (i := 1) (q := 1) (pc1 := 2) dJ4_append_bf812_1 rfl rfl rfl ?_
  refine J_runN (pc1 := 5) (ce := sMc (n + (sb_dg v + 1)) cp) (sl := sMs (n + (sb_dg v + 1)) cp) (J_hSU (st := []) (As := [.int (-nI v)]) (kJ5_appendIN l D tc sa hI (N := N) (t := t) h0 hv hm hq hnm hL hf) wpJ4_53 rfl sE0 rfl rfl rfl ⟨Nat.le_of_ble_eq_true rfl, Nat.le_of_ble_eq_true rfl⟩ ⟨Nat.le_of_eq (Nat.zero_add _), Nat.le_of_eq (Nat.zero_add _)⟩ (Nat.le_of_ble_eq_true rfl) dJ4_append_bf812_2) rfl (Nat.zero_add _) (Nat.zero_add _) (fun o1 E1 kd1 ad1 rh1 μ1 hp hI1 hfr => ?_)
  obtain ⟨rfl, rfl, h00, ⟨N1, rfl⟩, rfl, ml1, arr1, rfl, hL1, hf1⟩ := hp
  show J p l e _ s m args below meth c _ 2 RJ4 D _ _ tc ad1 sRh sa _ s.heap (sMc (n + (sb_dg v + 1)) cp) (sMs (n + (sb_dg v + 1)) cp) _ _ 5 [(0, .ref (ad 0 0)), (1, .int (-nI v))] [.ref (ad 0 0)]
  refine J_pop (pc1 := 6) dJ4_append_bf812_5 rfl rfl ?_
  refine J_aload_n (i := 0) (q := 0) (pc1 := 7) dJ4_append_bf812_6 rfl rfl rfl ?_
  exact J_aretG hr hlk ⟨rfl, rfl, h00, ⟨N1, rfl⟩, rfl, ml1, arr1, rfl, hL1, hf1⟩ hI1 (Nat.le_refl _) (Nat.le_refl _) dJ4_append_bf812_7
/-- any int's letters, and how many -/
def sb_lenI (x : Int32) : Nat := if x < 0 then sb_dg x.toInt.natAbs + 1 else sb_dg x.toInt.natAbs
def sb_decI (x : Int32) : Nat → Nat := if x < 0 then sb_decN x.toInt.natAbs else sb_dec x.toInt.natAbs
theorem sb_lenI_le (x : Int32) : 1 ≤ sb_lenI x ∧ sb_lenI x ≤ 11 := by
  have h := sb_dg_in x.toInt.natAbs
  unfold sb_lenI
  split <;> omega
theorem sb_absI (x : Int32) : (x < 0 ∧ 0 < x.toInt.natAbs ∧ x.toInt.natAbs ≤ 2 ^ 31 ∧ x = -nI x.toInt.natAbs) ∨ (¬ x < 0 ∧ x.toInt.natAbs < 2 ^ 31 ∧ x = nI x.toInt.natAbs) := by
  have h1 := Int32.le_toInt x
  have h2 := Int32.toInt_lt x
  by_cases h : x < 0
  · have h3 : x.toInt < 0 := by
      have := Int32.lt_iff_toInt_lt.mp h
      rwa [Int32.toInt_zero] at this
    refine Or.inl ⟨h, by omega, by omega, ?_⟩
    apply Int32.toInt_inj.mp
    rw [sb_negTB (by omega)]
    omega
  · have h3 : 0 ≤ x.toInt := by
      have := Int32.not_lt.mp h
      have := Int32.le_iff_toInt_le.mp this
      rwa [Int32.toInt_zero] at this
    refine Or.inr ⟨h, by omega, ?_⟩
    apply Int32.toInt_inj.mp
    rw [nI_toInt (by omega)]
    omega
theorem kJ4_appendInt {ad : Nat → Nat → Nat} (hI : gI sE ad) {N n cp : Nat} {ml : Int32} {arr : Nat → Int32} {x : Int32} {t : Nat → Nat} (hm : cp ≤ 65536) (hq : sb_cap (n + sb_lenI x) cp ≤ 65536) (hnm : n ≤ cp) (hL : sb_Lat t n arr) (hf : sb_Fit arr) : gMetG l yJ4_append_bf812 cJ4_append_bf812 2 (some (.object "java/lang/StringBuilder")) ({ frames := 7, cells := sMc (n + sb_lenI x) cp, slots := sMs (n + sb_lenI x) cp, locals := 500 } : Room) D sE (sKd cp N) tc ad sRh sa [.ref (ad 0 0), .int x] (sM n ml arr) (sPo ad (some (.ref (ad 0 0))) (sb_cat t n (sb_decI x)) (n + sb_lenI x) (sb_cap (n + sb_lenI x) cp)) := by
  rcases sb_absI x with ⟨h1, h2, h3, h4⟩ | ⟨h1, h2, h3⟩
  · have e1 : sb_lenI x = sb_dg x.toInt.natAbs + 1 := if_pos h1
    have e2 : sb_decI x = sb_decN x.toInt.natAbs := if_pos h1
    rw [e1] at hq
    rw [e1, e2]
    generalize x.toInt.natAbs = v at *
    subst h4
    exact kJ4_appendIN l D tc sa hI h2 h3 hm hq hnm hL hf
  · have e1 : sb_lenI x = sb_dg x.toInt.natAbs := if_neg h1
    have e2 : sb_decI x = sb_dec x.toInt.natAbs := if_neg h1
    rw [e1] at hq
    rw [e1, e2]
    generalize x.toInt.natAbs = v at *
    subst h3
    exact kJ4_appendI l D tc sa hI h2 hm hq hnm hL hf
end SB6c
