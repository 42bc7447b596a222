/-! the class writes an entry -/
theorem flX6_26 : Cond.fieldLink RX6 26 "QuorumLog" "written" "Ljava/lang/StringBuilder;" ∈ BIG := bigT2 (i := 186) rfl rfl
theorem wlX6_347 : Cond.methodLink RX6 347 yJ4_append_bf812 ∈ BIG := bigT7 (i := 0) rfl rfl
theorem wlX6_343 : Cond.methodLink RX6 343 yJ4_append_cf468 ∈ BIG := bigT6 (i := 227) rfl rfl
section SB12
variable (l : Launch) (D : va_G) (tc : Nat → ClassId) (sa : Nat → Nat)
/-- the pieces of an entry's text, as the class appends them -/
def eT (rk rv : Int32) : List (List Nat) := if rk = 3 then [[45]] else (if rk = 1 then [[74]] else if rk = 2 then [[67]] else []) ++ [txI rv]
def eP (rk rt rv : Int32) : List (List Nat) := txI rt :: [58] :: eT rk rv
def ePo (nc : Nat) (adb : Nat → Nat → Nat) (μ : gM) (cp : Nat) (T : List Nat) (Ps : List (List Nat)) : gPo := fun o1 E1 kd1 ad1 rh1 μ1 =>
  o1 = none ∧ ∃ (ada1 : Nat → Nat → Nat) (N1 : Nat) (ml1 : Int32) (arr1 : Nat → Int32), E1 = mxE sE (gE_C nc) ∧ kd1 = mxK (sKd (capL cp T.length Ps) N1) gkd_C ∧ ad1 = mxA ada1 adb ∧ rh1 = mxR sRh (grh_C nc) ∧ μ1 = mxM (sM (T ++ Ps.flatten).length ml1 arr1) μ ∧ wI (gE_C nc) adb cp (T ++ Ps.flatten) ada1 (capL cp T.length Ps) ((capL cp T.length Ps - cp) / 18) (2 * (capL cp T.length Ps - cp)) arr1
theorem kX6_writeEntry {nc n0 cp N : Nat} (hnc : 0 < nc ∧ nc ≤ 2) (hn0 : n0 < 5 * nc) {ada adb : Nat → Nat → Nat} {T : List Nat} {ml : Int32} {arr : Nat → Int32} {μ : gM} {a2 rk rt rv : Int32} (hw : wI (gE_C nc) adb cp T ada cp 0 0 arr) (hk : mX1_kindAt nc n0 a2 μ = some rk) (ht : mX1_termAt nc n0 a2 μ = some rt) (hv : mX1_valueAt nc n0 a2 μ = some rv) (hlen : T.length + (eP rk rt rv).flatten.length ≤ 700) : gMetG l yX6_writeEntry cX6_writeEntry 4 none ({ frames := 9, cells := (capL cp T.length (eP rk rt rv) - cp) / 18, slots := 2 * (capL cp T.length (eP rk rt rv) - cp), locals := 700 } : Room) D (mxE sE (gE_C nc)) (mxK (sKd cp N) gkd_C) tc (mxA ada adb) (mxR sRh (grh_C nc)) sa [.ref (adb 0 0), .ref (adb 12 n0), .int a2] (mxM (sM T.length ml arr) μ) (ePo nc adb μ cp T (eP rk rt rv)) := by
  have hIb := gI_mxb hw.1
  have hcpP := capL_ge (eP rk rt rv) cp T.length
  refine gMetG_of hw.1 ⟨by decide +kernel, Nat.le_of_ble_eq_true rfl⟩ (fun p e9 s m args below meth c sz hr hlk => ?_)
  show J p l e9 ({ frames := 9, cells := (capL cp T.length (eP rk rt rv) - cp) / 18, slots := 2 * (capL cp T.length (eP rk rt rv) - cp), locals := 700 } : Room) s m args below meth c cX6_writeEntry 4 RX6 D (mxE sE (gE_C nc)) (mxK (sKd cp N) gkd_C) tc (mxA ada adb) (mxR sRh (grh_C nc)) sa (gA (mxE sE (gE_C nc)) (mxA ada adb) sz) s.heap 0 0 (MQ below (gQG D tc (mxE sE (gE_C nc)) (mxA ada adb) sz (ePo nc adb μ cp T (eP rk rt rv))) args s ((capL cp T.length (eP rk rt rv) - cp) / 18) (2 * (capL cp T.length (eP rk rt rv) - cp)) (gA (mxE sE (gE_C nc)) (mxA ada adb) sz)) (mxM (sM T.length ml arr) μ) 0 [(0, .ref (adb 0 0)), (1, .ref (adb 12 n0)), (2, .int a2)] []
  have hrcs : ∀ (T1 : List Nat) (cp1 ce sl : Nat) (ada1 : Nat → Nat → Nat) (arr1 : Nat → Int32), wI (gE_C nc) adb cp T1 ada1 cp1 ce sl arr1 → cp1 ≤ capL cp T.length (eP rk rt rv) → ce + 0 ≤ (capL cp T.length (eP rk rt rv) - cp) / 18 ∧ sl + 0 ≤ 2 * (capL cp T.length (eP rk rt rv) - cp) := by
    intro T1 cp1 ce sl ada1 arr1 hw1 h
    obtain ⟨i1, i2, i3, i4, i5, i6, i7, i8, i9⟩ := hw1
    omega
  have e86 : ∀ (N1 : Nat) (ada1 : Nat → Nat → Nat) (ml1 : Int32) (arr1 : Nat → Int32) (ce sl : Nat), wI (gE_C nc) adb cp (T ++ (eP rk rt rv).flatten) ada1 (capL cp T.length (eP rk rt rv)) ce sl arr1 → J p l e9 ({ frames := 9, cells := (capL cp T.length (eP rk rt rv) - cp) / 18, slots := 2 * (capL cp T.length (eP rk rt rv) - cp), locals := 700 } : Room) s m args below meth c cX6_writeEntry 4 RX6 D (mxE sE (gE_C nc)) (mxK (sKd (capL cp T.length (eP rk rt rv)) N1) gkd_C) tc (mxA ada1 adb) (mxR sRh (grh_C nc)) sa (gA (mxE sE (gE_C nc)) (mxA ada adb) sz) s.heap ce sl (MQ below (gQG D tc (mxE sE (gE_C nc)) (mxA ada adb) sz (ePo nc adb μ cp T (eP rk rt rv))) args s ((capL cp T.length (eP rk rt rv) - cp) / 18) (2 * (capL cp T.length (eP rk rt rv) - cp)) (gA (mxE sE (gE_C nc)) (mxA ada adb) sz)) (mxM (sM (T ++ (eP rk rt rv).flatten).length ml1 arr1) μ) 86 [(3, .int rk), (0, .ref (adb 0 0)), (1, .ref (adb 12 n0)), (2, .int a2)] [] := by
    intro N1 ada1 ml1 arr1 ce sl hw1
    have hq := hw1
    obtain ⟨i1, i2, i3, i4, i5, i6, i7, i8, i9⟩ := hw1
    exact J_vretG hr hlk ⟨rfl, ada1, N1, ml1, arr1, rfl, rfl, rfl, rfl, rfl, i1, i2, i3, i4, i5, i6, i7, by omega, by omega⟩ i1 (by show ce ≤ (_ - cp) / 18; omega) (by show sl ≤ 2 * (_ - cp); omega) dX6_writeEntry_86
  have e39 : ∀ (N1 : Nat) (ada1 : Nat → Nat → Nat) (ml1 : Int32) (arr1 : Nat → Int32) (ce sl : Nat), wI (gE_C nc) adb cp (T ++ (eP rk rt rv).flatten) ada1 (capL cp T.length (eP rk rt rv)) ce sl arr1 → J p l e9 ({ frames := 9, cells := (capL cp T.length (eP rk rt rv) - cp) / 18, slots := 2 * (capL cp T.length (eP rk rt rv) - cp), locals := 700 } : Room) s m args below meth c cX6_writeEntry 4 RX6 D (mxE sE (gE_C nc)) (mxK (sKd (capL cp T.length (eP rk rt rv)) N1) gkd_C) tc (mxA ada1 adb) (mxR sRh (grh_C nc)) sa (gA (mxE sE (gE_C nc)) (mxA ada adb) sz) s.heap ce sl (MQ below (gQG D tc (mxE sE (gE_C nc)) (mxA ada adb) sz (ePo nc adb μ cp T (eP rk rt rv))) args s ((capL cp T.length (eP rk rt rv) - cp) / 18) (2 * (capL cp T.length (eP rk rt rv) - cp)) (gA (mxE sE (gE_C nc)) (mxA ada adb) sz)) (mxM (sM (T ++ (eP rk rt rv).flatten).length ml1 arr1) μ) 39 [(3, .int rk), (0, .ref (adb 0 0)), (1, .ref (adb 12 n0)), (2, .int a2)] [] := by
    intro N1 ada1 ml1 arr1 ce sl hw1
    have hq := hw1
    obtain ⟨i1, i2, i3, i4, i5, i6, i7, i8, i9⟩ := hw1
    exact J_vretG hr hlk ⟨rfl, ada1, N1, ml1, arr1, rfl, rfl, rfl, rfl, rfl, i1, i2, i3, i4, i5, i6, i7, by omega, by omega⟩ i1 (by show ce ≤ (_ - cp) / 18; omega) (by show sl ≤ 2 * (_ - cp); omega) dX6_writeEntry_39
  have k73 : ∀ (T1 : List Nat) (cp1 N1 ce sl : Nat) (ada1 : Nat → Nat → Nat) (ml1 : Int32) (arr1 : Nat → Int32), wI (gE_C nc) adb cp T1 ada1 cp1 ce sl arr1 → T1 ++ txI rv = T ++ (eP rk rt rv).flatten → sb_cap (T1.length + sb_lenI rv) cp1 = capL cp T.length (eP rk rt rv) → J p l e9 ({ frames := 9, cells := (capL cp T.length (eP rk rt rv) - cp) / 18, slots := 2 * (capL cp T.length (eP rk rt rv) - cp), locals := 700 } : Room) s m args below meth c cX6_writeEntry 4 RX6 D (mxE sE (gE_C nc)) (mxK (sKd cp1 N1) gkd_C) tc (mxA ada1 adb) (mxR sRh (grh_C nc)) sa (gA (mxE sE (gE_C nc)) (mxA ada adb) sz) s.heap ce sl (MQ below (gQG D tc (mxE sE (gE_C nc)) (mxA ada adb) sz (ePo nc adb μ cp T (eP rk rt rv))) args s ((capL cp T.length (eP rk rt rv) - cp) / 18) (2 * (capL cp T.length (eP rk rt rv) - cp)) (gA (mxE sE (gE_C nc)) (mxA ada adb) sz)) (mxM (sM T1.length ml1 arr1) μ) 73 [(3, .int rk), (0, .ref (adb 0 0)), (1, .ref (adb 12 n0)), (2, .int a2)] [] := by
    intro T1 cp1 N1 ce sl ada1 ml1 arr1 hw1 hTF hcap1
    have hrc := hrcs T1 cp1 ce sl ada1 arr1 hw1 (by rw [← hcap1]; exact sb_cap_gem _ _)
    refine J_aload_n (i := 0) (q := 1) (pc1 := 74) dX6_writeEntry_73 rfl rfl rfl ?_
    refine J_getR (T := TX6) (f := 30) (i := 0) (f' := 53) (i' := 0) (pc1 := 77) (mxE_b (eC0 (nc := nc))) rfl rfl inX6 3 (by decide) rfl rfl flX6_26 rfl dX6_writeEntry_74 rfl ?_
    refine J_aload_n (i := 1) (q := 2) (pc1 := 78) dX6_writeEntry_77 rfl rfl rfl ?_
    refine J_iload_n (i := 2) (q := 3) (pc1 := 79) dX6_writeEntry_78 rfl rfl rfl ?_
    refine J_mixB (o := some (.int rv)) (μ1 := μ) (pc1 := 82) (st1 := (.int rv) :: [.ref (adb 23 0)]) hw1.1 mxL_sE (J_hV (st := [.ref (adb 23 0)]) (As := [.int a2]) (gMet.G hIb ⟨rfl, rfl⟩ (kX1_valueAt l D tc sa adb nc hnc hIb n0 hn0 a2 μ _ hv)) wcX1_valueAt rfl wlX6_221 mxA_b.symm (mxE_b (eC12 hn0)) rfl rfl rfl ⟨Nat.le_of_ble_eq_true rfl, Nat.le_of_ble_eq_true rfl⟩ ⟨hrc.1, hrc.2⟩ (Nat.le_of_ble_eq_true rfl) dX6_writeEntry_79) rfl rfl rfl rfl ?_
    refine J_appI (st := []) (x := rv) (pc1 := 85) hw1 (by have h9 := congrArg List.length hTF; rw [List.length_append (as := T1), List.length_append (as := T), txI_len] at h9; omega) (fun y z h1 h2 => by rw [hcap1] at h1 h2; exact ⟨by show y ≤ (_ - cp) / 18; omega, by show z ≤ 2 * (_ - cp); omega⟩) ⟨Nat.le_of_ble_eq_true rfl, Nat.le_of_ble_eq_true rfl⟩ (Nat.le_of_ble_eq_true rfl) wlX6_347 dX6_writeEntry_82 rfl (fun ada2 N2 ml2 arr2 ce2 sl2 hw2 => ?_)
    rw [hTF, hcap1] at hw2 ⊢
    refine J_pop (pc1 := 86) dX6_writeEntry_85 rfl rfl ?_
    exact e86 N2 ada2 ml2 arr2 ce2 sl2 hw2
  refine J_aload_n (i := 1) (q := 1) (pc1 := 1) dX6_writeEntry_0 rfl rfl rfl ?_
  refine J_iload_n (i := 2) (q := 2) (pc1 := 2) dX6_writeEntry_1 rfl rfl rfl ?_
  refine J_mixB (o := some (.int rk)) (μ1 := μ) (pc1 := 5) (st1 := (.int rk) :: []) hw.1 mxL_sE (J_hV (st := []) (As := [.int a2]) (gMet.G hIb ⟨rfl, rfl⟩ (kX1_kindAt l D tc sa adb nc hnc hIb n0 hn0 a2 μ _ hk)) wcX1_kindAt rfl wlX6_218 mxA_b.symm (mxE_b (eC12 hn0)) rfl rfl rfl ⟨Nat.le_of_ble_eq_true rfl, Nat.le_of_ble_eq_true rfl⟩ ⟨Nat.zero_le _, Nat.zero_le _⟩ (Nat.le_of_ble_eq_true rfl) dX6_writeEntry_2) rfl rfl rfl rfl ?_
  refine J_istore_n (i := 3) (lv1 := [(3, .int rk), (0, .ref (adb 0 0)), (1, .ref (adb 12 n0)), (2, .int a2)]) (pc1 := 6) dX6_writeEntry_5 rfl (by decide) rfl rfl ?_
  refine J_aload_n (i := 0) (q := 1) (pc1 := 7) dX6_writeEntry_6 rfl rfl rfl ?_
  refine J_getR (T := TX6) (f := 30) (i := 0) (f' := 53) (i' := 0) (pc1 := 10) (mxE_b (eC0 (nc := nc))) rfl rfl inX6 3 (by decide) rfl rfl flX6_26 rfl dX6_writeEntry_7 rfl ?_
  refine J_aload_n (i := 1) (q := 2) (pc1 := 11) dX6_writeEntry_10 rfl rfl rfl ?_
  refine J_iload_n (i := 2) (q := 3) (pc1 := 12) dX6_writeEntry_11 rfl rfl rfl ?_
  refine J_mixB (o := some (.int rt)) (μ1 := μ) (pc1 := 15) (st1 := (.int rt) :: [.ref (adb 23 0)]) hw.1 mxL_sE (J_hV (st := [.ref (adb 23 0)]) (As := [.int a2]) (gMet.G hIb ⟨rfl, rfl⟩ (kX1_termAt l D tc sa adb nc hnc hIb n0 hn0 a2 μ _ ht)) wcX1_termAt rfl wlX6_215 mxA_b.symm (mxE_b (eC12 hn0)) rfl rfl rfl ⟨Nat.le_of_ble_eq_true rfl, Nat.le_of_ble_eq_true rfl⟩ ⟨Nat.zero_le _, Nat.zero_le _⟩ (Nat.le_of_ble_eq_true rfl) dX6_writeEntry_12) rfl rfl rfl rfl ?_
  have g1 : capL (sb_cap (T.length + sb_lenI rt) cp) (T ++ txI rt).length ([58] :: eT rk rv) = capL cp T.length (eP rk rt rv) := by
    rw [← txI_len rt, List.length_append]; rfl
  have g1c := capL_ge ([58] :: eT rk rv) (sb_cap (T.length + sb_lenI rt) cp) (T ++ txI rt).length
  have hfl : (eP rk rt rv).flatten = txI rt ++ ([58] ++ (eT rk rv).flatten) := rfl
  have hfl2 : T.length + ((txI rt).length + (1 + (eT rk rv).flatten.length)) ≤ 700 := by
    have h9 := hlen
    rw [hfl, List.length_append, List.length_append] at h9
    exact h9
  rw [txI_len] at hfl2
  refine J_appI (st := []) (x := rt) (pc1 := 18) hw (by omega) (fun y z h1 h2 => by rw [g1] at g1c; exact ⟨by show y ≤ (_ - cp) / 18; omega, by show z ≤ 2 * (_ - cp); omega⟩) ⟨Nat.le_of_ble_eq_true rfl, Nat.le_of_ble_eq_true rfl⟩ (Nat.le_of_ble_eq_true rfl) wlX6_347 dX6_writeEntry_15 rfl (fun ada1 N1 ml1 arr1 ce1 sl1 hw1 => ?_)
  refine J_bipush (v := 58) (pc1 := 20) dX6_writeEntry_18 (by decide) rfl ?_
  have g2 : capL (sb_cap ((T ++ txI rt).length + 1) (sb_cap (T.length + sb_lenI rt) cp)) ((T ++ txI rt) ++ [58]).length (eT rk rv) = capL cp T.length (eP rk rt rv) := by
    rw [← g1, List.length_append (as := T ++ txI rt)]; rfl
  have g2c := capL_ge (eT rk rv) (sb_cap ((T ++ txI rt).length + 1) (sb_cap (T.length + sb_lenI rt) cp)) ((T ++ txI rt) ++ [58]).length
  have hl1 : (T ++ txI rt).length = T.length + sb_lenI rt := by rw [List.length_append, txI_len]
  refine J_eqI (y := nI 58) (rfl) ?_
  refine J_appC (st := []) (pc1 := 23) (by decide) hw1 (by omega) (fun y z h1 h2 => by rw [g2] at g2c; exact ⟨by show y ≤ (_ - cp) / 18; omega, by show z ≤ 2 * (_ - cp); omega⟩) ⟨Nat.le_of_ble_eq_true rfl, Nat.le_of_ble_eq_true rfl⟩ (Nat.le_of_ble_eq_true rfl) wlX6_343 dX6_writeEntry_20 rfl (fun ada2 N2 ml2 arr2 ce2 sl2 hw2 => ?_)
  refine J_pop (pc1 := 24) dX6_writeEntry_23 rfl rfl ?_
  have hl2 : ((T ++ txI rt) ++ [58]).length = T.length + sb_lenI rt + 1 := by rw [List.length_append, hl1]; rfl
  have hTT : ((T ++ txI rt) ++ [58]) ++ (eT rk rv).flatten = T ++ (eP rk rt rv).flatten := by rw [hfl, List.append_assoc, List.append_assoc]
  generalize ((T ++ txI rt) ++ [58]) = T2 at *
  generalize sb_cap ((T ++ txI rt).length + 1) (sb_cap (T.length + sb_lenI rt) cp) = cp2 at *
  refine J_iload_n (i := 3) (q := 0) (pc1 := 25) dX6_writeEntry_24 rfl rfl rfl ?_
  refine J_iconst (v := 3) (pc1 := 26) dX6_writeEntry_25 (by decide) rfl ?_
  by_cases hk3 : rk = 3
  · rw [show eT rk rv = [[45]] from if_pos hk3] at g2 hTT
    refine J_icmp_ne (tgt := 40) (pc1 := 29) dX6_writeEntry_26 (by decide) (fun qq => absurd qq (fun z => z hk3)) rfl (fun qq => ?_)
    refine J_aload_n (i := 0) (q := 1) (pc1 := 30) dX6_writeEntry_29 rfl rfl rfl ?_
    refine J_getR (T := TX6) (f := 30) (i := 0) (f' := 53) (i' := 0) (pc1 := 33) (mxE_b (eC0 (nc := nc))) rfl rfl inX6 3 (by decide) rfl rfl flX6_26 rfl dX6_writeEntry_30 rfl ?_
    refine J_bipush (v := 45) (pc1 := 35) dX6_writeEntry_33 (by decide) rfl ?_
    have g3 : sb_cap (T2.length + 1) cp2 = capL cp T.length (eP rk rt rv) := g2
    have hTF : T2 ++ [45] = T ++ (eP rk rt rv).flatten := hTT
    refine J_eqI (y := nI 45) (rfl) ?_
    refine J_appC (st := []) (pc1 := 38) (by decide) hw2 (by have h9 := congrArg List.length hTF; rw [List.length_append (as := T2), List.length_append (as := T)] at h9; simp only [List.length_cons, List.length_nil] at h9; omega) (fun y z h1 h2 => by rw [g3] at h1 h2; exact ⟨by show y ≤ (_ - cp) / 18; omega, by show z ≤ 2 * (_ - cp); omega⟩) ⟨Nat.le_of_ble_eq_true rfl, Nat.le_of_ble_eq_true rfl⟩ (Nat.le_of_ble_eq_true rfl) wlX6_343 dX6_writeEntry_35 rfl (fun ada3 N3 ml3 arr3 ce3 sl3 hw3 => ?_)
    rw [hTF, g3] at hw3 ⊢
    refine J_pop (pc1 := 39) dX6_writeEntry_38 rfl rfl ?_
    exact e39 N3 ada3 ml3 arr3 ce3 sl3 hw3
  · rw [show eT rk rv = (if rk = 1 then [[74]] else if rk = 2 then [[67]] else []) ++ [txI rv] from if_neg hk3] at g2 hTT
    refine J_icmp_ne (tgt := 40) (pc1 := 29) dX6_writeEntry_26 (by decide) (fun qq => ?_) rfl (fun qq => absurd qq (hk3))
    refine J_iload_n (i := 3) (q := 0) (pc1 := 41) dX6_writeEntry_40 rfl rfl rfl ?_
    refine J_iconst (v := 1) (pc1 := 42) dX6_writeEntry_41 (by decide) rfl ?_
    by_cases hk1 : rk = 1
    · rw [if_pos hk1] at g2 hTT
      refine J_icmp_ne (tgt := 58) (pc1 := 45) dX6_writeEntry_42 (by decide) (fun qq => absurd qq (fun z => z hk1)) rfl (fun qq => ?_)
      have g3 : capL (sb_cap (T2.length + 1) cp2) (T2 ++ [74]).length [txI rv] = capL cp T.length (eP rk rt rv) := by rw [← g2, List.length_append]; rfl
      have g3c := capL_ge [txI rv] (sb_cap (T2.length + 1) cp2) (T2 ++ [74]).length
      have hTF : (T2 ++ [74]) ++ txI rv = T ++ (eP rk rt rv).flatten := by rw [← hTT, List.append_assoc]; simp
      refine J_aload_n (i := 0) (q := 1) (pc1 := 46) dX6_writeEntry_45 rfl rfl rfl ?_
      refine J_getR (T := TX6) (f := 30) (i := 0) (f' := 53) (i' := 0) (pc1 := 49) (mxE_b (eC0 (nc := nc))) rfl rfl inX6 3 (by decide) rfl rfl flX6_26 rfl dX6_writeEntry_46 rfl ?_
      refine J_bipush (v := 74) (pc1 := 51) dX6_writeEntry_49 (by decide) rfl ?_
      refine J_eqI (y := nI 74) (rfl) ?_
      refine J_appC (st := []) (pc1 := 54) (by decide) hw2 (by have h9 := congrArg List.length hTF; rw [List.length_append (as := T2 ++ [74]), List.length_append (as := T2), List.length_append (as := T)] at h9; simp only [List.length_cons, List.length_nil] at h9; omega) (fun y z h1 h2 => by rw [g3] at g3c; exact ⟨by show y ≤ (_ - cp) / 18; omega, by show z ≤ 2 * (_ - cp); omega⟩) ⟨Nat.le_of_ble_eq_true rfl, Nat.le_of_ble_eq_true rfl⟩ (Nat.le_of_ble_eq_true rfl) wlX6_343 dX6_writeEntry_51 rfl (fun ada3 N3 ml3 arr3 ce3 sl3 hw3 => ?_)
      refine J_pop (pc1 := 55) dX6_writeEntry_54 rfl rfl ?_
      refine J_goto (tgt := 73) dX6_writeEntry_55 (by decide) ?_
      exact k73 (T2 ++ [74]) _ N3 ce3 sl3 ada3 ml3 arr3 hw3 hTF (by rw [← g3, ← txI_len]; rfl)
    · rw [if_neg hk1] at g2 hTT
      refine J_icmp_ne (tgt := 58) (pc1 := 45) dX6_writeEntry_42 (by decide) (fun qq => ?_) rfl (fun qq => absurd qq (hk1))
      refine J_iload_n (i := 3) (q := 0) (pc1 := 59) dX6_writeEntry_58 rfl rfl rfl ?_
      refine J_iconst (v := 2) (pc1 := 60) dX6_writeEntry_59 (by decide) rfl ?_
      by_cases hk2 : rk = 2
      · rw [if_pos hk2] at g2 hTT
        refine J_icmp_ne (tgt := 73) (pc1 := 63) dX6_writeEntry_60 (by decide) (fun qq => absurd qq (fun z => z hk2)) rfl (fun qq => ?_)
        have g3 : capL (sb_cap (T2.length + 1) cp2) (T2 ++ [67]).length [txI rv] = capL cp T.length (eP rk rt rv) := by rw [← g2, List.length_append]; rfl
        have g3c := capL_ge [txI rv] (sb_cap (T2.length + 1) cp2) (T2 ++ [67]).length
        have hTF : (T2 ++ [67]) ++ txI rv = T ++ (eP rk rt rv).flatten := by rw [← hTT, List.append_assoc]; simp
        refine J_aload_n (i := 0) (q := 1) (pc1 := 64) dX6_writeEntry_63 rfl rfl rfl ?_
        refine J_getR (T := TX6) (f := 30) (i := 0) (f' := 53) (i' := 0) (pc1 := 67) (mxE_b (eC0 (nc := nc))) rfl rfl inX6 3 (by decide) rfl rfl flX6_26 rfl dX6_writeEntry_64 rfl ?_
        refine J_bipush (v := 67) (pc1 := 69) dX6_writeEntry_67 (by decide) rfl ?_
        refine J_eqI (y := nI 67) (rfl) ?_
        refine J_appC (st := []) (pc1 := 72) (by decide) hw2 (by have h9 := congrArg List.length hTF; rw [List.length_append (as := T2 ++ [67]), List.length_append (as := T2), List.length_append (as := T)] at h9; simp only [List.length_cons, List.length_nil] at h9; omega) (fun y z h1 h2 => by rw [g3] at g3c; exact ⟨by show y ≤ (_ - cp) / 18; omega, by show z ≤ 2 * (_ - cp); omega⟩) ⟨Nat.le_of_ble_eq_true rfl, Nat.le_of_ble_eq_true rfl⟩ (Nat.le_of_ble_eq_true rfl) wlX6_343 dX6_writeEntry_69 rfl (fun ada3 N3 ml3 arr3 ce3 sl3 hw3 => ?_)
        refine J_pop (pc1 := 73) dX6_writeEntry_72 rfl rfl ?_
        exact k73 (T2 ++ [67]) _ N3 ce3 sl3 ada3 ml3 arr3 hw3 hTF (by rw [← g3, ← txI_len]; rfl)
      · rw [if_neg hk2] at g2 hTT
        refine J_icmp_ne (tgt := 73) (pc1 := 63) dX6_writeEntry_60 (by decide) (fun qq => ?_) rfl (fun qq => absurd qq (hk2))
        exact k73 T2 cp2 N2 ce2 sl2 ada2 ml2 arr2 hw2 (by rw [← hTT]; simp) (by rw [← g2, ← txI_len]; rfl)
end SB12
