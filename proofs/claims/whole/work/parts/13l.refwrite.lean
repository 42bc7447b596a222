/-! the reference: write -/
theorem wlX7_298 : Cond.methodLink RX7 298 yX7_writeLog ∈ BIG := bigT8 (i := 180) rfl rfl
theorem imX7_writeLog : Cond.instanceMethod yX7_writeLog ∈ BIG := bigT8 (i := 182) rfl rfl
theorem seX7_writeLog : Cond.selects yX7_writeLog.cls yX7_writeLog yX7_writeLog ∈ BIG := bigS6 (i := 5) (q := (yX7_writeLog, 14)) rfl
theorem cdX7_writeLog : Cond.code yX7_writeLog cX7_writeLog 4 (none) ∈ BIG := bigT8 (i := 183) rfl rfl
theorem wcX7_writeLog : wCv yX7_writeLog cX7_writeLog 4 (none) 1 := ⟨⟨imX7_writeLog, seX7_writeLog, iniX7, cdX7_writeLog⟩, by decide +kernel⟩
section SB11
variable (l : Launch) (D : va_G) (tc : Nat → ClassId) (sa : Nat → Nat)
variable {ad : Nat → Nat → Nat} {μ : gM} {S : sqSt} {B n : Nat} {a1 : Int32}
theorem kX7_write (hI : gI gE_R ad) (R : RA (μ 1 0) S) (L : LI B S) (hB : B < 1000000000) (hn : n < 5) (h1 : a1.toInt = (n : Int)) (hbl : nbs (zno S n) ≤ (nlg (zno S n)).length) (hcm0 : ncm (zno S n) ≤ (nlg (zno S n)).length) : gMetG l yX7_write cX7_write 2 (some .int) ({ frames := 15, cells := 200, slots := 2000, locals := 1500 } : Room) D gE_R gkd_R tc ad grh_R sa [.ref (ad 0 0), .int a1] μ (gSame gE_R gkd_R ad grh_R (some (.int (nI (txL (zno S n)).length))) (wT (w3 (w3 μ 0 0 0 0) 0 0 13 0) 0 (txL (zno S n)))) := by
  refine gMetG_of hI ⟨by decide +kernel, Nat.le_of_ble_eq_true rfl⟩ (fun p e9 s m args below meth c sz hr hlk => ?_)
  show J p l e9 ({ frames := 15, cells := 200, slots := 2000, locals := 1500 } : Room) s m args below meth c cX7_write 2 RX7 D gE_R gkd_R tc ad grh_R sa (gA gE_R ad sz) s.heap 0 0 (MQ below (gQG D tc gE_R ad sz (gSame gE_R gkd_R ad grh_R (some (.int (nI (txL (zno S n)).length))) (wT (w3 (w3 μ 0 0 0 0) 0 0 13 0) 0 (txL (zno S n))))) args s 200 2000 (gA gE_R ad sz)) μ 0 [(0, .ref (ad 0 0)), (1, .int a1)] []
  refine J_aload_n (i := 0) (q := 0) (pc1 := 1) dX7_write_0 rfl rfl rfl ?_
  refine J_iconst (v := 1) (pc1 := 2) dX7_write_1 (by decide) rfl ?_
  refine J_iload_n (i := 1) (q := 1) (pc1 := 3) dX7_write_2 rfl rfl rfl ?_
  have hce : 0 + 0 ≤ 200 := by decide
  have hsl : 0 + 0 ≤ 2000 := by decide
  obtain ⟨r, hr0, hr1, hr2⟩ := mX7_isNode_ok μ a1
  refine J_runM (o := some (.int r)) (pc1 := 6) (st1 := [.int r, .int 1, .ref (ad 0 0)]) (ce := 0) (sl := 0) (J_hS (st := [.int 1, .ref (ad 0 0)]) (As := [.int a1]) (gMet.G hI ⟨rfl, rfl⟩ (kX7_isNode l D tc sa ad hI a1 μ _ hr0)) wcX7_isNode wlX7_185 rfl ⟨Nat.le_of_ble_eq_true rfl, Nat.le_of_ble_eq_true rfl⟩ ⟨hce, hsl⟩ (Nat.le_of_ble_eq_true rfl) dX7_write_3) rfl rfl rfl rfl ?_
  refine J_if_ne (tgt := 13) (pc1 := 9) dX7_write_6 (by decide) (fun qq => ?_) rfl (fun qq => absurd qq (fun z => (hr2.mp z) (by omega)))
  refine J_iconst (v := 0) (pc1 := 14) dX7_write_13 (by decide) rfl ?_
  refine J_runM (o := some (.int 0)) (μ1 := (w3 μ 0 0 0 0)) (pc1 := 17) (st1 := (.int 0) :: []) (ce := 0) (sl := 0) (J_hV (st := []) (As := [.int 1, .int 0]) (gMet.G hI ⟨rfl, rfl⟩ (kX7_fails l D tc sa ad hI 1 0 μ 0 (w3 μ 0 0 0 0) rfl)) wcX7_fails rfl wlX7_55 rfl eR0 rfl rfl rfl ⟨Nat.le_of_ble_eq_true rfl, Nat.le_of_ble_eq_true rfl⟩ ⟨hce, hsl⟩ (Nat.le_of_ble_eq_true rfl) dX7_write_14) rfl rfl (Nat.add_zero _) (Nat.add_zero _) ?_
  refine J_if_eq (tgt := 22) (pc1 := 20) dX7_write_17 (by decide) (fun qq => ?_) rfl (fun qq => absurd (rfl) qq)
  refine J_aload_n (i := 0) (q := 0) (pc1 := 23) dX7_write_22 rfl rfl rfl ?_
  refine J_iload_n (i := 1) (q := 1) (pc1 := 24) dX7_write_23 rfl rfl rfl ?_
  refine J_runM (o := none) (μ1 := (wT (w3 (w3 μ 0 0 0 0) 0 0 13 0) 0 (txL (zno S n)))) (pc1 := 27) (st1 := []) (ce := 200) (sl := 2000) (J_hV (st := []) (As := [.int a1]) (kX7_writeLog l D tc sa (μ := w3 μ 0 0 0 0) hI (by rw [w3_ne (by omega)]; exact R) L hB hn h1 hbl hcm0) wcX7_writeLog rfl wlX7_298 rfl eR0 rfl rfl rfl ⟨Nat.le_of_ble_eq_true rfl, Nat.le_of_ble_eq_true rfl⟩ ⟨(by decide), (by decide)⟩ (Nat.le_of_ble_eq_true rfl) dX7_write_24) rfl rfl (rfl) (rfl) ?_
  refine J_aload_n (i := 0) (q := 0) (pc1 := 28) dX7_write_27 rfl rfl rfl ?_
  refine J_getV (T := TX7) (pc1 := 31) 13 (v := nI (txL (zno S n)).length) (by rw [wT_cnt _ (show (w3 (w3 μ 0 0 0 0) 0 0 13 0) 0 0 13 = nI 0 from w3_at _ _ _ _ _), Nat.zero_add]) eR0 rfl rfl inX7 (by decide) rfl flX7_269 rfl dX7_write_28 rfl ?_
  exact J_iretG hr hlk ⟨rfl, rfl, rfl, rfl, rfl, rfl⟩ hI (Nat.le_of_ble_eq_true rfl) (Nat.le_of_ble_eq_true rfl) dX7_write_31
theorem kX7_writeX (hI : gI gE_R ad) (h1 : ¬ (0 ≤ a1.toInt ∧ a1.toInt < 5)) : gMetG l yX7_write cX7_write 2 (some .int) ({ frames := 15, cells := 200, slots := 2000, locals := 1500 } : Room) D gE_R gkd_R tc ad grh_R sa [.ref (ad 0 0), .int a1] μ (gSame gE_R gkd_R ad grh_R (some (.int 0)) (w3 μ 0 0 0 1)) := by
  refine gMetG_of hI ⟨by decide +kernel, Nat.le_of_ble_eq_true rfl⟩ (fun p e9 s m args below meth c sz hr hlk => ?_)
  show J p l e9 ({ frames := 15, cells := 200, slots := 2000, locals := 1500 } : Room) s m args below meth c cX7_write 2 RX7 D gE_R gkd_R tc ad grh_R sa (gA gE_R ad sz) s.heap 0 0 (MQ below (gQG D tc gE_R ad sz (gSame gE_R gkd_R ad grh_R (some (.int 0)) (w3 μ 0 0 0 1))) args s 200 2000 (gA gE_R ad sz)) μ 0 [(0, .ref (ad 0 0)), (1, .int a1)] []
  refine J_aload_n (i := 0) (q := 0) (pc1 := 1) dX7_write_0 rfl rfl rfl ?_
  refine J_iconst (v := 1) (pc1 := 2) dX7_write_1 (by decide) rfl ?_
  refine J_iload_n (i := 1) (q := 1) (pc1 := 3) dX7_write_2 rfl rfl rfl ?_
  have hce : 0 + 0 ≤ 200 := by decide
  have hsl : 0 + 0 ≤ 2000 := by decide
  obtain ⟨r, hr0, hr1, hr2⟩ := mX7_isNode_ok μ a1
  refine J_runM (o := some (.int r)) (pc1 := 6) (st1 := [.int r, .int 1, .ref (ad 0 0)]) (ce := 0) (sl := 0) (J_hS (st := [.int 1, .ref (ad 0 0)]) (As := [.int a1]) (gMet.G hI ⟨rfl, rfl⟩ (kX7_isNode l D tc sa ad hI a1 μ _ hr0)) wcX7_isNode wlX7_185 rfl ⟨Nat.le_of_ble_eq_true rfl, Nat.le_of_ble_eq_true rfl⟩ ⟨hce, hsl⟩ (Nat.le_of_ble_eq_true rfl) dX7_write_3) rfl rfl rfl rfl ?_
  refine J_if_ne (tgt := 13) (pc1 := 9) dX7_write_6 (by decide) (fun qq => absurd qq (fun z => z (hr2.mpr h1))) rfl (fun qq => ?_)
  refine J_iconst (v := 1) (pc1 := 10) dX7_write_9 (by decide) rfl ?_
  refine J_goto (tgt := 14) dX7_write_10 (by decide) ?_
  refine J_runM (o := some (.int 1)) (μ1 := (w3 μ 0 0 0 1)) (pc1 := 17) (st1 := (.int 1) :: []) (ce := 0) (sl := 0) (J_hV (st := []) (As := [.int 1, .int 1]) (gMet.G hI ⟨rfl, rfl⟩ (kX7_fails l D tc sa ad hI 1 1 μ 1 (w3 μ 0 0 0 1) rfl)) wcX7_fails rfl wlX7_55 rfl eR0 rfl rfl rfl ⟨Nat.le_of_ble_eq_true rfl, Nat.le_of_ble_eq_true rfl⟩ ⟨hce, hsl⟩ (Nat.le_of_ble_eq_true rfl) dX7_write_14) rfl rfl (Nat.add_zero _) (Nat.add_zero _) ?_
  refine J_if_eq (tgt := 22) (pc1 := 20) dX7_write_17 (by decide) (fun qq => absurd qq (by decide)) rfl (fun qq => ?_)
  refine J_iconst (v := 0) (pc1 := 21) dX7_write_20 (by decide) rfl ?_
  exact J_iretG hr hlk ⟨rfl, rfl, rfl, rfl, rfl, rfl⟩ hI (Nat.le_of_ble_eq_true rfl) (Nat.le_of_ble_eq_true rfl) dX7_write_21
end SB11
