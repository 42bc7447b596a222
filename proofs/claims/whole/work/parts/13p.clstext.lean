/-! the class: text; the throw of write -/
theorem wlX6_358 : Cond.methodLink RX6 358 yJ4_charAt_5068e ∈ BIG := bigT7 (i := 14) rfl rfl
theorem imJ4_charAt_5068e : Cond.instanceMethod yJ4_charAt_5068e ∈ BIG := bigT7 (i := 15) rfl rfl
theorem seJ4_charAt_5068e : Cond.selects yJ4_charAt_5068e.cls yJ4_charAt_5068e yJ4_charAt_5068e ∈ BIG := bigT7 (i := 16) rfl rfl
theorem cdJ4_charAt_5068e : Cond.code yJ4_charAt_5068e cJ4_charAt_5068e 2 (some .char) ∈ BIG := bigT7 (i := 17) rfl rfl
theorem wcJ4_charAt_5068e : wCv yJ4_charAt_5068e cJ4_charAt_5068e 2 (some .char) 1 := ⟨⟨imJ4_charAt_5068e, seJ4_charAt_5068e, iniJ4, cdJ4_charAt_5068e⟩, by decide +kernel⟩
section SB14
variable (l : Launch) (D : va_G) (tc : Nat → ClassId) (sa : Nat → Nat)
theorem kX6_text {nc cp N0 : Nat} {ada adb : Nat → Nat → Nat} {T : List Nat} {ml : Int32} {arr : Nat → Int32} {μ : gM} {a1 : Int32} (hw : wI (gE_C nc) adb cp T ada cp 0 0 arr) {k : Nat} (hk : k < T.length) : gMetG l yX6_text cX6_text 2 (some .char) ({ frames := 11, cells := 0, slots := 0, locals := 900 } : Room) D (mxE sE (gE_C nc)) (mxK (sKd cp N0) gkd_C) tc (mxA ada adb) (mxR sRh (grh_C nc)) sa [.ref (adb 0 0), .int (nI k)] (mxM (sM T.length ml arr) μ) (gSame (mxE sE (gE_C nc)) (mxK (sKd cp N0) gkd_C) (mxA ada adb) (mxR sRh (grh_C nc)) (some (.int (nI (T.getD k 0)))) (mxM (sM T.length ml arr) μ)) := by
  obtain ⟨-, -, hL, -, hn, hcp, -, -, -⟩ := id hw
  have hch : T.getD k 0 < 256 := (hL k hk).1
  refine gMetG_of hw.1 ⟨by decide +kernel, Nat.le_of_ble_eq_true rfl⟩ (fun p e9 s m args below meth c sz hr hlk => ?_)
  show J p l e9 ({ frames := 11, cells := 0, slots := 0, locals := 900 } : Room) s m args below meth c cX6_text 2 RX6 D (mxE sE (gE_C nc)) (mxK (sKd cp N0) gkd_C) tc (mxA ada adb) (mxR sRh (grh_C nc)) sa (gA (mxE sE (gE_C nc)) (mxA ada adb) sz) s.heap 0 0 (MQ below (gQG D tc (mxE sE (gE_C nc)) (mxA ada adb) sz (gSame (mxE sE (gE_C nc)) (mxK (sKd cp N0) gkd_C) (mxA ada adb) (mxR sRh (grh_C nc)) (some (.int (nI (T.getD k 0)))) (mxM (sM T.length ml arr) μ))) args s 0 0 (gA (mxE sE (gE_C nc)) (mxA ada adb) sz)) (mxM (sM T.length ml arr) μ) 0 [(0, .ref (adb 0 0)), (1, .int (nI k))] []
  refine J_iload_n (i := 1) (q := 1) (pc1 := 1) dX6_text_0 rfl rfl rfl ?_
  refine J_if_lt (tgt := 15) (pc1 := 4) dX6_text_1 (by decide) (fun qq => absurd qq (nI_pos (by omega))) rfl (fun qq => ?_)
  refine J_iload_n (i := 1) (q := 1) (pc1 := 5) dX6_text_4 rfl rfl rfl ?_
  refine J_aload_n (i := 0) (q := 0) (pc1 := 6) dX6_text_5 rfl rfl rfl ?_
  refine J_getR (T := TX6) (f := 30) (i := 0) (f' := 53) (i' := 0) (pc1 := 9) (mxE_b (eC0 (nc := nc))) rfl rfl inX6 3 (by decide) rfl rfl flX6_26 rfl dX6_text_6 rfl ?_
  refine J_appLen (st := [.int (nI k)]) (pc1 := 12) hw ⟨Nat.le_refl _, Nat.le_refl _⟩ ⟨Nat.le_of_ble_eq_true rfl, Nat.le_of_ble_eq_true rfl⟩ (Nat.le_of_ble_eq_true rfl) wlX6_350 dX6_text_9 rfl ?_
  refine J_icmp_lt (tgt := 26) (pc1 := 15) dX6_text_12 (by decide) (fun qq => ?_) rfl (fun qq => absurd (nI_lt hk (by omega)) qq)
  refine J_aload_n (i := 0) (q := 0) (pc1 := 27) dX6_text_26 rfl rfl rfl ?_
  refine J_getR (T := TX6) (f := 30) (i := 0) (f' := 53) (i' := 0) (pc1 := 30) (mxE_b (eC0 (nc := nc))) rfl rfl inX6 3 (by decide) rfl rfl flX6_26 rfl dX6_text_27 rfl ?_
  refine J_iload_n (i := 1) (q := 1) (pc1 := 31) dX6_text_30 rfl rfl rfl ?_
  rw [show (Value.ref (mxA ada adb 53 0)) = .ref (ada 0 0) from congrArg Value.ref hw.2.1.symm]
  refine J_mixAM (o := some (.int (nI (T.getD k 0)))) (pc1 := 34) (st1 := [.int (nI (T.getD k 0))]) hw.1 mxL_sE (J_hV (st := []) (As := [.int (nI k)]) (kJ4_charAt l D tc sa (gI_mxa mxL_sE.1 hw.1) (N := N0) (ml := ml) (i := k) (t := fun i => T.getD i 0) (by omega) hn hk hL) wcJ4_charAt_5068e rfl wlX6_358 rfl (mxE_a sE0) rfl rfl rfl ⟨Nat.le_of_ble_eq_true rfl, Nat.le_of_ble_eq_true rfl⟩ ⟨Nat.le_refl _, Nat.le_refl _⟩ (Nat.le_of_ble_eq_true rfl) dX6_text_31) rfl rfl rfl rfl ?_
  exact J_cretG (Value.int.inj (pk_charN (by omega)).1) hr hlk ⟨rfl, rfl, rfl, rfl, rfl, rfl⟩ hw.1 (Nat.le_refl _) (Nat.le_refl _) dX6_text_34
theorem tX6_text {nc cp N0 : Nat} {ada adb : Nat → Nat → Nat} {T : List Nat} {ml : Int32} {arr : Nat → Int32} {μ : gM} {a1 : Int32} (hw : wI (gE_C nc) adb cp T ada cp 0 0 arr) (hlz : l.stackTraces = false) (hx : ∀ k : Nat, a1 = nI k → ¬ k < T.length) : gMetX l yX6_text cX6_text 2 (some .char) ({ frames := 12, cells := 1, slots := 6, locals := 900 } : Room) D (mxE sE (gE_C nc)) (mxK (sKd cp N0) gkd_C) tc (mxA ada adb) (mxR sRh (grh_C nc)) sa [.ref (adb 0 0), .int a1] (mxM (sM T.length ml arr) μ) "java/lang/IndexOutOfBoundsException" (mxM (sM T.length ml arr) μ) := by
  obtain ⟨-, -, hL, -, hn, hcp, -, -, -⟩ := id hw
  refine gMetX_of hw.1 ⟨by decide +kernel, Nat.le_of_ble_eq_true rfl⟩ (fun p e9 s m args below meth c sz hr hlk hT => ?_)
  show J p l e9 ({ frames := 12, cells := 1, slots := 6, locals := 900 } : Room) s m args below meth c cX6_text 2 RX6 D (mxE sE (gE_C nc)) (mxK (sKd cp N0) gkd_C) tc (mxA ada adb) (mxR sRh (grh_C nc)) sa (gA (mxE sE (gE_C nc)) (mxA ada adb) sz) s.heap 0 0 (vx_MQ below (fun _ _ _ _ => False) (gXC D (mxE sE (gE_C nc)) (mxK (sKd cp N0) gkd_C) tc (mxA ada adb) (mxR sRh (grh_C nc)) sz "java/lang/IndexOutOfBoundsException" (mxM (sM T.length ml arr) μ)) args s 1 6 (gA (mxE sE (gE_C nc)) (mxA ada adb) sz)) (mxM (sM T.length ml arr) μ) 0 [(0, .ref (adb 0 0)), (1, .int a1)] []
  refine J_iload_n (i := 1) (q := 1) (pc1 := 1) dX6_text_0 rfl rfl rfl ?_
  refine J_if_lt (tgt := 15) (pc1 := 4) dX6_text_1 (by decide) (fun q1 => ?_) rfl (fun q1 => ?_)
  · exact J_throwSW (i := 22) (text := jsT 22) hlz hT xf_IndexOutOfBoundsException clX6_78 ini_IndexOutOfBoundsException ⟨by decide, rfl, rfl, rfl⟩ (xh_IndexOutOfBoundsException clX6_78) hlk dX6_text_15 dX6_text_18 dX6_text_19 dX6_text_22 dX6_text_25 ⟨by decide, by decide, by decide, by decide⟩
  obtain ⟨k, hk1, rfl⟩ := nI_of q1
  refine J_iload_n (i := 1) (q := 1) (pc1 := 5) dX6_text_4 rfl rfl rfl ?_
  refine J_aload_n (i := 0) (q := 0) (pc1 := 6) dX6_text_5 rfl rfl rfl ?_
  refine J_getR (T := TX6) (f := 30) (i := 0) (f' := 53) (i' := 0) (pc1 := 9) (mxE_b (eC0 (nc := nc))) rfl rfl inX6 3 (by decide) rfl rfl flX6_26 rfl dX6_text_6 rfl ?_
  refine J_appLen (st := [.int (nI k)]) (pc1 := 12) hw ⟨Nat.zero_le _, Nat.zero_le _⟩ ⟨Nat.le_of_ble_eq_true rfl, Nat.le_of_ble_eq_true rfl⟩ (Nat.le_of_ble_eq_true rfl) wlX6_350 dX6_text_9 rfl ?_
  refine J_icmp_lt (tgt := 26) (pc1 := 15) dX6_text_12 (by decide) (fun qq => absurd qq (fun z => hx k rfl ((nI_ltI hk1 (by omega)).mp z))) rfl (fun qq => ?_)
  exact J_throwSW (i := 22) (text := jsT 22) hlz hT xf_IndexOutOfBoundsException clX6_78 ini_IndexOutOfBoundsException ⟨by decide, rfl, rfl, rfl⟩ (xh_IndexOutOfBoundsException clX6_78) hlk dX6_text_15 dX6_text_18 dX6_text_19 dX6_text_22 dX6_text_25 ⟨by decide, by decide, by decide, by decide⟩
theorem tX6_write {ad : Nat → Nat → Nat} {nc : Nat} (hnc : 0 < nc ∧ nc ≤ 2) (hI : gI (gE_C nc) ad) {a1 : Int32} {μ : gM} (hlz : l.stackTraces = false) (h1 : ¬ (0 ≤ a1.toInt ∧ a1.toInt < 5)) : gMetX l yX6_write cX6_write 5 (some .int) ({ frames := 12, cells := 1, slots := 6, locals := 900 } : Room) D (gE_C nc) gkd_C tc ad (grh_C nc) sa [.ref (ad 0 0), .int a1] μ eIO μ := by
  obtain ⟨q9, hq0, hq1, -⟩ := mX6_replicaAt_ok (nc := nc) μ a1
  have hrep : mX6_replicaAt nc a1 μ = some (.inl (eIO, μ)) := by rw [hq0, hq1 h1]
  refine gMetX_of hI ⟨by decide +kernel, Nat.le_of_ble_eq_true rfl⟩ (fun p e9 s m args below meth c sz hr hlk hT => ?_)
  refine J_aload_n (i := 0) (q := 0) (pc1 := 1) dX6_write_0 rfl rfl rfl ?_
  refine J_iload_n (i := 1) (q := 1) (pc1 := 2) dX6_write_1 rfl rfl rfl ?_
  exact J_callX (As := [.int a1]) (ad := ad) (f := 0) (i := 0) (st := []) hT (tX6_replicaAt l D tc sa ad nc hnc hI a1 μ hlz eIO μ hrep) wcX6_replicaAt wlX6_93 eC0 rfl rfl rfl ⟨rfl, rfl, Nat.le_of_ble_eq_true rfl, Nat.le_of_ble_eq_true rfl⟩ ⟨by decide, by decide⟩ (Nat.le_of_ble_eq_true rfl) hlk dX6_write_2
end SB14
