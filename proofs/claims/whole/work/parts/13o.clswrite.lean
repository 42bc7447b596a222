/-! the class: write -/
theorem wlX6_350 : Cond.methodLink RX6 350 yJ4_length_8abf5 ∈ BIG := bigT7 (i := 1) rfl rfl
theorem wlX6_352 : Cond.methodLink RX6 352 yX6_writeEntry ∈ BIG := bigT7 (i := 2) rfl rfl
theorem imX6_writeEntry : Cond.instanceMethod yX6_writeEntry ∈ BIG := bigT7 (i := 4) rfl rfl
theorem seX6_writeEntry : Cond.selects yX6_writeEntry.cls yX6_writeEntry yX6_writeEntry ∈ BIG := bigS2 (i := 15) (q := (yX6_writeEntry, 4)) rfl
theorem cdX6_writeEntry : Cond.code yX6_writeEntry cX6_writeEntry 4 (none) ∈ BIG := bigT7 (i := 5) rfl rfl
theorem wcX6_writeEntry : wCv yX6_writeEntry cX6_writeEntry 4 (none) 2 := ⟨⟨imX6_writeEntry, seX6_writeEntry, iniX6, cdX6_writeEntry⟩, by decide +kernel⟩
theorem wlX6_340 : Cond.methodLink RX6 340 yJ4_setLength_d00df ∈ BIG := bigT5 (i := 238) rfl rfl
section SB13
variable (l : Launch) (D : va_G) (tc : Nat → ClassId) (sa : Nat → Nat)
theorem eP_flat {e : sqE} {rk rt : Int32} (h1 : rk.toInt = (e.2.1 : Int)) (h2 : rt = Int32.ofNat (sqT e)) : (eP rk rt e.2.2).flatten = txE e := by
  have hq : ∀ c : Nat, c < 100 → (rk = Int32.ofNat c ↔ e.2.1 = c) := fun c hc => ⟨fun z => by
    rw [z, ti_nat (by omega)] at h1
    omega, fun z => ti_of (by rw [h1, z])⟩
  have q1 := hq 1 (by decide)
  have q2 := hq 2 (by decide)
  have q3 := hq 3 (by decide)
  unfold eP eT txE
  subst h2
  by_cases h3 : e.2.1 = 3
  · rw [if_pos (show rk = 3 from q3.mpr h3), if_neg (by omega), if_neg (by omega), if_pos h3]
    simp
  · rw [if_neg (show ¬ rk = 3 from fun z => h3 (q3.mp z)), if_neg h3]
    by_cases h4 : e.2.1 = 1
    · rw [if_pos (show rk = 1 from q1.mpr h4), if_pos h4]
      simp
    · rw [if_neg (show ¬ rk = 1 from fun z => h4 (q1.mp z)), if_neg h4]
      by_cases h5 : e.2.1 = 2
      · rw [if_pos (show rk = 2 from q2.mpr h5), if_pos h5]
        simp
      · rw [if_neg (show ¬ rk = 2 from fun z => h5 (q2.mp z)), if_neg h5]
        simp
theorem cls_entry {nc k g b : Nat} {μ : gM} {lg : List sqE} (h : CL μ k g lg b) (hB : lg.length < 900000000) {j : Nat} {e : sqE} (hj : lg[j]? = some e) (hb : b ≤ j) : ∃ rk rt, mX1_kindAt nc k (nI (j + 1)) μ = some rk ∧ mX1_termAt nc k (nI (j + 1)) μ = some rt ∧ mX1_valueAt nc k (nI (j + 1)) μ = some e.2.2 ∧ (eP rk rt e.2.2).flatten = txE e := by
  have hlt := sq_lt hj
  have hi : (nI (j + 1)).toInt = ((j + 1 : Nat) : Int) := nI_toInt (by omega)
  obtain ⟨g1, g2, g3⟩ := h.at hj hb
  obtain ⟨rt, ht0, ht1⟩ := mX1_termAt_ok (nc := nc) h (by omega) hi (by omega) (by omega)
  obtain ⟨rk, hk0, hk1⟩ := CL.part (nc := nc) (f := 17) (a2 := 3) h hB hi (by omega) (by omega)
  obtain ⟨rv, hv0, hv1⟩ := CL.part (nc := nc) (f := 18) (a2 := 0) h hB hi (by omega) (by omega)
  rw [show j + 1 - 1 - b = j - b by omega] at hk1 hv1
  refine ⟨rk, rt, ?_, ht0, ?_, eP_flat (by rw [hk1]; exact g2) (ti_of (by rw [ht1]; exact congrArg Int.ofNat (sqTT_some hj)))⟩
  · unfold mX1_kindAt gBp
    rw [hk0]
  · unfold mX1_valueAt gBp
    rw [hv0, hv1, g3]
theorem hRcW {Eb : List (Nat × Nat)} {adb ada : Nat → Nat → Nat} {c0 cp ce sl w y z : Nat} {T : List Nat} {arr : Nat → Int32} (hw : wI Eb adb c0 T ada cp ce sl arr) (hT : T.length + w ≤ 700) (h1 : 18 * y + c0 ≤ sb_cap (T.length + w) cp) (h2 : z + 2 * c0 ≤ 2 * sb_cap (T.length + w) cp) : y ≤ 80 ∧ z ≤ 2900 := by
  obtain ⟨i1, i2, i3, i4, i5, i6, i7, i8, i9⟩ := hw
  obtain ⟨q1, q2, q3, q4⟩ := cap_step i6 hT i7 i8 i9
  omega
/-- the builder holds the text T behind a write -/
def wPo (nc : Nat) (adb : Nat → Nat → Nat) (μ : gM) (T : List Nat) : gPo := fun o1 E1 kd1 ad1 rh1 μ1 =>
  o1 = some (.int (nI T.length)) ∧ ∃ (ada1 : Nat → Nat → Nat) (cp1 N1 : Nat) (ml1 : Int32) (arr1 : Nat → Int32), E1 = mxE sE (gE_C nc) ∧ kd1 = mxK (sKd cp1 N1) gkd_C ∧ ad1 = mxA ada1 adb ∧ rh1 = mxR sRh (grh_C nc) ∧ μ1 = mxM (sM T.length ml1 arr1) μ ∧ wI (gE_C nc) adb cp1 T ada1 cp1 0 0 arr1
theorem kX6_write {nc cp N0 n g B : Nat} (hnc : 0 < nc ∧ nc ≤ 2) {ada adb : Nat → Nat → Nat} {T : List Nat} {ml : Int32} {arr : Nat → Int32} {μ : gM} {a1 : Int32} {S : sqSt} (hw : wI (gE_C nc) adb cp T ada cp 0 0 arr) (R : RY B μ 0 S) (hn : n < 5) (h1 : a1.toInt = (n : Int)) : gMetG l yX6_write cX6_write 5 (some .int) ({ frames := 11, cells := 80, slots := 2900, locals := 900 } : Room) D (mxE sE (gE_C nc)) (mxK (sKd cp N0) gkd_C) tc (mxA ada adb) (mxR sRh (grh_C nc)) sa [.ref (adb 0 0), .int a1] (mxM (sM T.length ml arr) μ) (wPo nc adb μ (txL (zno S n))) := by
  have hIb := gI_mxb hw.1
  have hk5 : 5 * 0 + n < 5 * nc := by omega
  obtain ⟨hb1, hb2, hb3⟩ := R.bd hn
  have hlB := R.len hn
  have hBN := (R.1.2.1 n hn).1
  have hcl := hBN.2.2.2.2.2.1
  have hcm := hBN.2.2.2.2.1
  obtain ⟨rla, hla, hla1⟩ := mX1_lastIndex_ok (nc := nc) hcl (by omega)
  obtain rfl := ti_of hla1
  obtain ⟨q9, hq0, -, hq2⟩ := mX6_replicaAt_ok (nc := nc) μ a1
  have hrep : mX6_replicaAt nc a1 μ = some (.inr (5 * 0 + n)) := by rw [hq0, hq2 (by omega), h1]; rfl
  clear hq0 hq2
  generalize zno S n = N at *
  refine gMetG_of hw.1 ⟨by decide +kernel, Nat.le_of_ble_eq_true rfl⟩ (fun p e9 s m args below meth c sz hr hlk => ?_)
  show J p l e9 ({ frames := 11, cells := 80, slots := 2900, locals := 900 } : Room) s m args below meth c cX6_write 5 RX6 D (mxE sE (gE_C nc)) (mxK (sKd cp N0) gkd_C) tc (mxA ada adb) (mxR sRh (grh_C nc)) sa (gA (mxE sE (gE_C nc)) (mxA ada adb) sz) s.heap 0 0 (MQ below (gQG D tc (mxE sE (gE_C nc)) (mxA ada adb) sz (wPo nc adb μ (txL N))) args s 80 2900 (gA (mxE sE (gE_C nc)) (mxA ada adb) sz)) (mxM (sM T.length ml arr) μ) 0 [(0, .ref (adb 0 0)), (1, .int a1)] []
  have e117 : ∀ (x cp1 N1 ce1 sl1 : Nat) (ada1 : Nat → Nat → Nat) (ml1 : Int32) (arr1 : Nat → Int32), wI (gE_C nc) adb cp (txL N) ada1 cp1 ce1 sl1 arr1 → J p l e9 ({ frames := 11, cells := 80, slots := 2900, locals := 900 } : Room) s m args below meth c cX6_write 5 RX6 D (mxE sE (gE_C nc)) (mxK (sKd cp1 N1) gkd_C) tc (mxA ada1 adb) (mxR sRh (grh_C nc)) sa (gA (mxE sE (gE_C nc)) (mxA ada adb) sz) s.heap ce1 sl1 (MQ below (gQG D tc (mxE sE (gE_C nc)) (mxA ada adb) sz (wPo nc adb μ (txL N))) args s 80 2900 (gA (mxE sE (gE_C nc)) (mxA ada adb) sz)) (mxM (sM (txL N).length ml1 arr1) μ) 117 [(4, .int (nI (nbs N + x + 1))), (3, .ref (adb 12 (5 * 0 + n))), (2, .ref (adb 11 (5 * 0 + n))), (0, .ref (adb 0 0)), (1, .int a1)] [] := by
    intro x cp1 N1 ce1 sl1 ada1 ml1 arr1 hw1
    refine J_aload_n (i := 0) (q := 3) (pc1 := 118) dX6_write_117 rfl rfl rfl ?_
    refine J_getR (T := TX6) (f := 30) (i := 0) (f' := 53) (i' := 0) (pc1 := 121) (mxE_b (eC0 (nc := nc))) rfl rfl inX6 3 (by decide) rfl rfl flX6_26 rfl dX6_write_118 rfl ?_
    refine J_appLen (st := []) (pc1 := 124) hw1 (by obtain ⟨i1, i2, i3, i4, i5, i6, i7, i8, i9⟩ := hw1; exact ⟨by show ce1 ≤ 80; omega, by show sl1 ≤ 2900; omega⟩) ⟨Nat.le_of_ble_eq_true rfl, Nat.le_of_ble_eq_true rfl⟩ (Nat.le_of_ble_eq_true rfl) wlX6_350 dX6_write_121 rfl ?_
    obtain ⟨i1, i2, i3, i4, i5, i6, i7, i8, i9⟩ := hw1
    exact J_iretG hr hlk ⟨rfl, ada1, cp1, N1, ml1, arr1, rfl, rfl, rfl, rfl, rfl, i1, i2, i3, i4, i5, i6, by omega, by omega, by omega⟩ i1 (by show ce1 ≤ 80; omega) (by show sl1 ≤ 2900; omega) dX6_write_124
  have kl : ∀ (d k : Nat), k + d = (nlg N).length - nbs N → ∀ (cp1 N1 ce1 sl1 : Nat) (ada1 : Nat → Nat → Nat) (ml1 : Int32) (arr1 : Nat → Int32), wI (gE_C nc) adb cp (txK N k) ada1 cp1 ce1 sl1 arr1 → J p l e9 ({ frames := 11, cells := 80, slots := 2900, locals := 900 } : Room) s m args below meth c cX6_write 5 RX6 D (mxE sE (gE_C nc)) (mxK (sKd cp1 N1) gkd_C) tc (mxA ada1 adb) (mxR sRh (grh_C nc)) sa (gA (mxE sE (gE_C nc)) (mxA ada adb) sz) s.heap ce1 sl1 (MQ below (gQG D tc (mxE sE (gE_C nc)) (mxA ada adb) sz (wPo nc adb μ (txL N))) args s 80 2900 (gA (mxE sE (gE_C nc)) (mxA ada adb) sz)) (mxM (sM (txK N k).length ml1 arr1) μ) 56 [(4, .int (nI (nbs N + k + 1))), (3, .ref (adb 12 (5 * 0 + n))), (2, .ref (adb 11 (5 * 0 + n))), (0, .ref (adb 0 0)), (1, .int a1)] [] := by
    intro d
    induction d with
    | zero =>
      intro k hk cp1 N1 ce1 sl1 ada1 ml1 arr1 hw1
      refine J_iload (i := 4) (q := 0) (pc1 := 58) dX6_write_56 rfl rfl ?_
      refine J_aload_n (i := 3) (q := 1) (pc1 := 59) dX6_write_58 rfl rfl rfl ?_
      have hrc : ce1 + 0 ≤ 80 ∧ sl1 + 0 ≤ 2900 := by obtain ⟨i1, i2, i3, i4, i5, i6, i7, i8, i9⟩ := hw1; omega
      refine J_mixB (o := some (.int (nI (nlg N).length))) (μ1 := μ) (pc1 := 62) (st1 := [.int (nI (nlg N).length), .int (nI (nbs N + k + 1))]) hw1.1 mxL_sE (J_hV (st := [.int (nI (nbs N + k + 1))]) (As := []) (gMet.G hIb ⟨rfl, rfl⟩ (kX1_lastIndex l D tc sa adb nc hnc hIb (5 * 0 + n) hk5 μ _ hla)) wcX1_lastIndex rfl wlX6_124 mxA_b.symm (mxE_b (eC12 hk5)) rfl rfl rfl ⟨Nat.le_of_ble_eq_true rfl, Nat.le_of_ble_eq_true rfl⟩ hrc (Nat.le_of_ble_eq_true rfl) dX6_write_59) rfl rfl rfl rfl ?_
      refine J_icmp_gt (tgt := 117) (pc1 := 65) dX6_write_62 (by decide) (fun qq => ?_) rfl (fun qq => absurd (nI_lt (show (nlg N).length < nbs N + k + 1 by omega) (by omega)) qq)
      have hkl : k = (nlg N).length - nbs N := by omega
      rw [hkl] at hw1 ⊢
      exact e117 _ cp1 N1 ce1 sl1 ada1 ml1 arr1 hw1
    | succ d ih =>
      intro k hk cp1 N1 ce1 sl1 ada1 ml1 arr1 hw1
      refine J_iload (i := 4) (q := 0) (pc1 := 58) dX6_write_56 rfl rfl ?_
      refine J_aload_n (i := 3) (q := 1) (pc1 := 59) dX6_write_58 rfl rfl rfl ?_
      have hrc : ce1 + 0 ≤ 80 ∧ sl1 + 0 ≤ 2900 := by obtain ⟨i1, i2, i3, i4, i5, i6, i7, i8, i9⟩ := hw1; omega
      refine J_mixB (o := some (.int (nI (nlg N).length))) (μ1 := μ) (pc1 := 62) (st1 := [.int (nI (nlg N).length), .int (nI (nbs N + k + 1))]) hw1.1 mxL_sE (J_hV (st := [.int (nI (nbs N + k + 1))]) (As := []) (gMet.G hIb ⟨rfl, rfl⟩ (kX1_lastIndex l D tc sa adb nc hnc hIb (5 * 0 + n) hk5 μ _ hla)) wcX1_lastIndex rfl wlX6_124 mxA_b.symm (mxE_b (eC12 hk5)) rfl rfl rfl ⟨Nat.le_of_ble_eq_true rfl, Nat.le_of_ble_eq_true rfl⟩ hrc (Nat.le_of_ble_eq_true rfl) dX6_write_59) rfl rfl rfl rfl ?_
      refine J_icmp_gt (tgt := 117) (pc1 := 65) dX6_write_62 (by decide) (fun qq => absurd qq (nI_nlt (show nbs N + k + 1 ≤ (nlg N).length by omega) (by omega))) rfl (fun qq => ?_)
      obtain ⟨e, he⟩ : ∃ e, (nlg N)[nbs N + k]? = some e := ⟨_, List.getElem?_eq_getElem (by omega)⟩
      have heD : (nlg N).getD (nbs N + k) (0, 0, 0) = e := by rw [List.getD_eq_getElem?_getD, he]; rfl
      obtain ⟨rk, rt, z1, z2, z3, z4⟩ := cls_entry (nc := nc) hcl hlB he (by omega)
      have hTl := txK_le N (k + 1)
      have hT2 : txK N (k + 1) = txK N k ++ ((if txK N k = [] then [] else [32]) ++ (txE ((nlg N).getD (nbs N + k) (0, 0, 0)) ++ txC N (nbs N + k))) := rfl
      rw [heD] at hT2
      rw [hT2] at hTl
      have k85 : ∀ (T : List Nat) (cp2 N2 ce2 sl2 : Nat) (ada2 : Nat → Nat → Nat) (ml2 : Int32) (arr2 : Nat → Int32), wI (gE_C nc) adb cp T ada2 cp2 ce2 sl2 arr2 → T ++ (txE e ++ txC N (nbs N + k)) = txK N (k + 1) → (T ++ (txE e ++ txC N (nbs N + k))).length ≤ 700 → J p l e9 ({ frames := 11, cells := 80, slots := 2900, locals := 900 } : Room) s m args below meth c cX6_write 5 RX6 D (mxE sE (gE_C nc)) (mxK (sKd cp2 N2) gkd_C) tc (mxA ada2 adb) (mxR sRh (grh_C nc)) sa (gA (mxE sE (gE_C nc)) (mxA ada adb) sz) s.heap ce2 sl2 (MQ below (gQG D tc (mxE sE (gE_C nc)) (mxA ada adb) sz (wPo nc adb μ (txL N))) args s 80 2900 (gA (mxE sE (gE_C nc)) (mxA ada adb) sz)) (mxM (sM T.length ml2 arr2) μ) 85 [(4, .int (nI (nbs N + k + 1))), (3, .ref (adb 12 (5 * 0 + n))), (2, .ref (adb 11 (5 * 0 + n))), (0, .ref (adb 0 0)), (1, .int a1)] [] := by
        intro T cp2 N2 ce2 sl2 ada2 ml2 arr2 hw2 hTT hTT2
        refine J_aload_n (i := 0) (q := 3) (pc1 := 86) dX6_write_85 rfl rfl rfl ?_
        refine J_aload_n (i := 3) (q := 1) (pc1 := 87) dX6_write_86 rfl rfl rfl ?_
        refine J_iload (i := 4) (q := 0) (pc1 := 89) dX6_write_87 rfl rfl ?_
        have hEP : T.length + (eP rk rt e.2.2).flatten.length ≤ 700 := by rw [z4]; simp only [List.length_append] at hTT2; omega
        have hcL := capL_le (eP rk rt e.2.2) cp2 T.length hw2.2.2.2.2.2.1 hEP
        have hcG := capL_ge (eP rk rt e.2.2) cp2 T.length
        have hwE : wI (gE_C nc) adb cp2 T ada2 cp2 0 0 arr2 := by obtain ⟨i1, i2, i3, i4, i5, i6, i7, i8, i9⟩ := hw2; exact ⟨i1, i2, i3, i4, i5, i6, by omega, by omega, by omega⟩
        have hrc2 : ce2 + (capL cp2 T.length (eP rk rt e.2.2) - cp2) / 18 ≤ 80 ∧ sl2 + 2 * (capL cp2 T.length (eP rk rt e.2.2) - cp2) ≤ 2900 := by obtain ⟨i1, i2, i3, i4, i5, i6, i7, i8, i9⟩ := hw2; omega
        refine J_runN (pc1 := 92) (ce := ce2 + (capL cp2 T.length (eP rk rt e.2.2) - cp2) / 18) (sl := sl2 + 2 * (capL cp2 T.length (eP rk rt e.2.2) - cp2)) (J_hV (adc := mxA ada2 adb) (fc := 30) (ic := 0) (f := 30) (i := 0) (st := []) (As := [.ref (adb 12 (5 * 0 + n)), .int (nI (nbs N + k + 1))]) (kX6_writeEntry l D tc sa hnc hk5 hwE z1 z2 z3 hEP) wcX6_writeEntry rfl wlX6_352 rfl (mxE_b (eC0 (nc := nc))) rfl rfl rfl ⟨Nat.le_of_ble_eq_true rfl, Nat.le_of_ble_eq_true rfl⟩ hrc2 (Nat.le_of_ble_eq_true rfl) dX6_write_89) rfl rfl rfl (fun o1 E1 kd1 ad1 rh1 μ1 hp hI1 hfr => ?_)
        obtain ⟨rfl, ada3, N3, ml3, arr3, rfl, rfl, rfl, rfl, rfl, hw3⟩ := hp
        rw [z4] at hw3 ⊢
        have hw4 : wI (gE_C nc) adb cp (T ++ txE e) ada3 (capL cp2 T.length (eP rk rt e.2.2)) (ce2 + (capL cp2 T.length (eP rk rt e.2.2) - cp2) / 18) (sl2 + 2 * (capL cp2 T.length (eP rk rt e.2.2) - cp2)) arr3 := by
          obtain ⟨i1, i2, i3, i4, i5, i6, i7, i8, i9⟩ := hw3
          obtain ⟨-, -, -, -, -, -, j7, j8, j9⟩ := hw2
          exact ⟨i1, i2, i3, i4, i5, i6, j7, by omega, by omega⟩
        generalize capL cp2 T.length (eP rk rt e.2.2) = cp3 at *
        generalize ce2 + (cp3 - cp2) / 18 = ce3 at *
        generalize sl2 + 2 * (cp3 - cp2) = sl3 at *
        show J p l e9 ({ frames := 11, cells := 80, slots := 2900, locals := 900 } : Room) s m args below meth c cX6_write 5 RX6 D (mxE sE (gE_C nc)) (mxK (sKd cp3 N3) gkd_C) tc (mxA ada3 adb) (mxR sRh (grh_C nc)) sa (gA (mxE sE (gE_C nc)) (mxA ada adb) sz) s.heap ce3 sl3 (MQ below (gQG D tc (mxE sE (gE_C nc)) (mxA ada adb) sz (wPo nc adb μ (txL N))) args s 80 2900 (gA (mxE sE (gE_C nc)) (mxA ada adb) sz)) (mxM (sM (T ++ txE e).length ml3 arr3) μ) 92 [(4, .int (nI (nbs N + k + 1))), (3, .ref (adb 12 (5 * 0 + n))), (2, .ref (adb 11 (5 * 0 + n))), (0, .ref (adb 0 0)), (1, .int a1)] []
        refine J_iload (i := 4) (q := 0) (pc1 := 94) dX6_write_92 rfl rfl ?_
        refine J_aload_n (i := 2) (q := 2) (pc1 := 95) dX6_write_94 rfl rfl rfl ?_
        refine J_getV (T := TX4) (pc1 := 98) (f := 41) (i := (5 * 0 + n)) 9 (v := nI (ncm N)) (ti_of hcm) (mxE_b (eC11 hk5)) rfl rfl inX4 (by decide) rfl flX6_159 rfl dX6_write_95 rfl ?_
        by_cases hc9 : nbs N + k + 1 ≤ ncm N
        · rw [show txC N (nbs N + k) = [33] from if_pos hc9] at hTT hTT2
          refine J_icmp_gt (tgt := 111) (pc1 := 101) dX6_write_98 (by decide) (fun qq => absurd qq (nI_nlt (by omega) (by omega))) rfl (fun qq => ?_)
          refine J_aload_n (i := 0) (q := 3) (pc1 := 102) dX6_write_101 rfl rfl rfl ?_
          refine J_getR (T := TX6) (f := 30) (i := 0) (f' := 53) (i' := 0) (pc1 := 105) (mxE_b (eC0 (nc := nc))) rfl rfl inX6 3 (by decide) rfl rfl flX6_26 rfl dX6_write_102 rfl ?_
          refine J_bipush (v := 33) (pc1 := 107) dX6_write_105 (by decide) rfl ?_
          have hT9 : (T ++ txE e).length + 1 ≤ 700 := by simp only [List.length_append, List.length_cons, List.length_nil] at hTT2 ⊢; omega
          refine J_eqI (y := nI 33) (rfl) ?_
          refine J_appC (st := []) (pc1 := 110) (by decide) hw4 (hT9) (fun y z h1 h2 => hRcW hw4 (hT9) h1 h2) ⟨Nat.le_of_ble_eq_true rfl, Nat.le_of_ble_eq_true rfl⟩ (Nat.le_of_ble_eq_true rfl) wlX6_343 dX6_write_107 rfl (fun ada5 N5 ml5 arr5 ce5 sl5 hw5 => ?_)
          rw [List.append_assoc, hTT] at hw5 ⊢
          refine J_pop (pc1 := 111) dX6_write_110 rfl rfl ?_
          refine J_iinc (q := 0) (v := nI (nbs N + (k + 1) + 1)) (lv1 := [(4, .int (nI (nbs N + (k + 1) + 1))), (3, .ref (adb 12 (5 * 0 + n))), (2, .ref (adb 11 (5 * 0 + n))), (0, .ref (adb 0 0)), (1, .int a1)]) (pc1 := 114) dX6_write_111 rfl (nI_1 _) (by decide) rfl rfl ?_
          refine J_goto (tgt := 56) dX6_write_114 (by decide) ?_
          exact ih (k + 1) (by omega) _ N5 _ _ ada5 ml5 arr5 hw5
        · rw [show txC N (nbs N + k) = [] from if_neg hc9, List.append_nil] at hTT
          refine J_icmp_gt (tgt := 111) (pc1 := 101) dX6_write_98 (by decide) (fun qq => ?_) rfl (fun qq => absurd (nI_lt (by omega) (by omega)) qq)
          rw [hTT] at hw4 ⊢
          refine J_iinc (q := 0) (v := nI (nbs N + (k + 1) + 1)) (lv1 := [(4, .int (nI (nbs N + (k + 1) + 1))), (3, .ref (adb 12 (5 * 0 + n))), (2, .ref (adb 11 (5 * 0 + n))), (0, .ref (adb 0 0)), (1, .int a1)]) (pc1 := 114) dX6_write_111 rfl (nI_1 _) (by decide) rfl rfl ?_
          refine J_goto (tgt := 56) dX6_write_114 (by decide) ?_
          exact ih (k + 1) (by omega) _ N3 _ _ ada3 ml3 arr3 hw4
      refine J_aload_n (i := 0) (q := 3) (pc1 := 66) dX6_write_65 rfl rfl rfl ?_
      refine J_getR (T := TX6) (f := 30) (i := 0) (f' := 53) (i' := 0) (pc1 := 69) (mxE_b (eC0 (nc := nc))) rfl rfl inX6 3 (by decide) rfl rfl flX6_26 rfl dX6_write_66 rfl ?_
      refine J_appLen (st := []) (pc1 := 72) hw1 ⟨by show ce1 ≤ 80; omega, by show sl1 ≤ 2900; omega⟩ ⟨Nat.le_of_ble_eq_true rfl, Nat.le_of_ble_eq_true rfl⟩ (Nat.le_of_ble_eq_true rfl) wlX6_350 dX6_write_69 rfl ?_
      by_cases hnil : txK N k = []
      · rw [if_pos hnil, List.nil_append] at hT2 hTl
        refine J_if_le (tgt := 85) (pc1 := 75) dX6_write_72 (by decide) (fun qq => ?_) rfl (fun qq => absurd (by rw [hnil]; decide) qq)
        exact k85 (txK N k) cp1 N1 ce1 sl1 ada1 ml1 arr1 hw1 hT2.symm (by omega)
      · rw [if_neg hnil] at hT2 hTl
        have hpos : 0 < (txK N k).length := List.length_pos_iff.mpr hnil
        have hk9 := txK_le N k
        refine J_if_le (tgt := 85) (pc1 := 75) dX6_write_72 (by decide) (fun qq => absurd qq (nI_nle (by omega) (by omega))) rfl (fun qq => ?_)
        refine J_aload_n (i := 0) (q := 3) (pc1 := 76) dX6_write_75 rfl rfl rfl ?_
        refine J_getR (T := TX6) (f := 30) (i := 0) (f' := 53) (i' := 0) (pc1 := 79) (mxE_b (eC0 (nc := nc))) rfl rfl inX6 3 (by decide) rfl rfl flX6_26 rfl dX6_write_76 rfl ?_
        refine J_bipush (v := 32) (pc1 := 81) dX6_write_79 (by decide) rfl ?_
        have hT9 : (txK N k).length + 1 ≤ 700 := by omega
        refine J_eqI (y := nI 32) (rfl) ?_
        refine J_appC (st := []) (pc1 := 84) (by decide) hw1 (hT9) (fun y z h1 h2 => hRcW hw1 (hT9) h1 h2) ⟨Nat.le_of_ble_eq_true rfl, Nat.le_of_ble_eq_true rfl⟩ (Nat.le_of_ble_eq_true rfl) wlX6_343 dX6_write_81 rfl (fun ada2 N2 ml2 arr2 ce2 sl2 hw2 => ?_)
        refine J_pop (pc1 := 85) dX6_write_84 rfl rfl ?_
        exact k85 (txK N k ++ [32]) _ N2 _ _ ada2 ml2 arr2 hw2 (by rw [List.append_assoc]; exact hT2.symm) (by rw [List.append_assoc]; omega)
  have k48 : ∀ (cp1 N1 ce1 sl1 : Nat) (ada1 : Nat → Nat → Nat) (ml1 : Int32) (arr1 : Nat → Int32), wI (gE_C nc) adb cp (txK N 0) ada1 cp1 ce1 sl1 arr1 → J p l e9 ({ frames := 11, cells := 80, slots := 2900, locals := 900 } : Room) s m args below meth c cX6_write 5 RX6 D (mxE sE (gE_C nc)) (mxK (sKd cp1 N1) gkd_C) tc (mxA ada1 adb) (mxR sRh (grh_C nc)) sa (gA (mxE sE (gE_C nc)) (mxA ada adb) sz) s.heap ce1 sl1 (MQ below (gQG D tc (mxE sE (gE_C nc)) (mxA ada adb) sz (wPo nc adb μ (txL N))) args s 80 2900 (gA (mxE sE (gE_C nc)) (mxA ada adb) sz)) (mxM (sM (txK N 0).length ml1 arr1) μ) 48 [(3, .ref (adb 12 (5 * 0 + n))), (2, .ref (adb 11 (5 * 0 + n))), (0, .ref (adb 0 0)), (1, .int a1)] [] := by
    intro cp1 N1 ce1 sl1 ada1 ml1 arr1 hw1
    refine J_aload_n (i := 3) (q := 0) (pc1 := 49) dX6_write_48 rfl rfl rfl ?_
    refine J_getV (T := TX1) (pc1 := 52) (f := 42) (i := (5 * 0 + n)) 4 (v := nI (nbs N)) (ti_of hcl.2.2.2.1) (mxE_b (eC12 hk5)) rfl rfl inX1 (by decide) rfl flX6_181 rfl dX6_write_49 rfl ?_
    refine J_iconst (v := 1) (pc1 := 53) dX6_write_52 (by decide) rfl ?_
    refine J_iadd (pc1 := 54) dX6_write_53 rfl ?_
    refine J_eqI (y := nI (nbs N + 0 + 1)) (nI_1 _) ?_
    refine J_istore (i := 4) (lv1 := [(4, .int (nI (nbs N + 0 + 1))), (3, .ref (adb 12 (5 * 0 + n))), (2, .ref (adb 11 (5 * 0 + n))), (0, .ref (adb 0 0)), (1, .int a1)]) (pc1 := 56) dX6_write_54 (by decide) rfl rfl ?_
    exact kl _ 0 (Nat.zero_add _) cp1 N1 ce1 sl1 ada1 ml1 arr1 hw1
  refine J_aload_n (i := 0) (q := 0) (pc1 := 1) dX6_write_0 rfl rfl rfl ?_
  refine J_iload_n (i := 1) (q := 1) (pc1 := 2) dX6_write_1 rfl rfl rfl ?_
  refine J_mixB (o := some (.ref (adb 11 (5 * 0 + n)))) (μ1 := μ) (pc1 := 5) (st1 := [.ref (adb 11 (5 * 0 + n))]) hw.1 mxL_sE (J_hV (adc := adb) (fc := 0) (ic := 0) (f := 30) (i := 0) (st := []) (As := [.int a1]) (gMet.G hIb ⟨rfl, rfl⟩ (kX6_replicaAt l D tc sa adb nc hnc hIb a1 μ _ hrep)) wcX6_replicaAt rfl wlX6_93 mxA_b.symm (mxE_b (eC0 (nc := nc))) rfl rfl rfl ⟨Nat.le_of_ble_eq_true rfl, Nat.le_of_ble_eq_true rfl⟩ ⟨Nat.zero_le _, Nat.zero_le _⟩ (Nat.le_of_ble_eq_true rfl) dX6_write_2) rfl rfl rfl rfl ?_
  refine J_astore_n (i := 2) (lv1 := [(2, .ref (adb 11 (5 * 0 + n))), (0, .ref (adb 0 0)), (1, .int a1)]) (pc1 := 6) dX6_write_5 rfl (by decide) rfl rfl ?_
  refine J_aload_n (i := 2) (q := 0) (pc1 := 7) dX6_write_6 rfl rfl rfl ?_
  refine J_getR (T := TX4) (f := 41) (i := (5 * 0 + n)) (f' := 42) (i' := (5 * 0 + n)) (pc1 := 10) (mxE_b (eC11 hk5)) rfl rfl inX4 1 (by decide) rfl rfl flX6_120 rfl dX6_write_7 rfl ?_
  refine J_astore_n (i := 3) (lv1 := [(3, .ref (adb 12 (5 * 0 + n))), (2, .ref (adb 11 (5 * 0 + n))), (0, .ref (adb 0 0)), (1, .int a1)]) (pc1 := 11) dX6_write_10 rfl (by decide) rfl rfl ?_
  refine J_aload_n (i := 0) (q := 2) (pc1 := 12) dX6_write_11 rfl rfl rfl ?_
  refine J_getR (T := TX6) (f := 30) (i := 0) (f' := 53) (i' := 0) (pc1 := 15) (mxE_b (eC0 (nc := nc))) rfl rfl inX6 3 (by decide) rfl rfl flX6_26 rfl dX6_write_12 rfl ?_
  refine J_iconst (v := 0) (pc1 := 16) dX6_write_15 (by decide) rfl ?_
  refine J_eqI (y := nI 0) (rfl) ?_
  refine J_appZ (st := []) (pc1 := 19) hw ⟨Nat.zero_le _, Nat.zero_le _⟩ ⟨Nat.le_of_ble_eq_true rfl, Nat.le_of_ble_eq_true rfl⟩ (Nat.le_of_ble_eq_true rfl) wlX6_340 dX6_write_16 rfl (fun ada1 N1 ml1 arr1 hw1 => ?_)
  refine J_aload_n (i := 3) (q := 0) (pc1 := 20) dX6_write_19 rfl rfl rfl ?_
  refine J_getV (T := TX1) (pc1 := 23) (f := 42) (i := (5 * 0 + n)) 4 (v := nI (nbs N)) (ti_of hcl.2.2.2.1) (mxE_b (eC12 hk5)) rfl rfl inX1 (by decide) rfl flX6_181 rfl dX6_write_20 rfl ?_
  by_cases hb0 : nbs N = 0
  · rw [show txK N 0 = [] from if_pos hb0] at k48
    refine J_if_eq (tgt := 48) (pc1 := 26) dX6_write_23 (by decide) (fun qq => ?_) rfl (fun qq => absurd (by rw [hb0]; rfl) qq)
    exact k48 cp N1 0 0 ada1 ml1 arr1 hw1
  · rw [show txK N 0 = [91] ++ (txI (Int32.ofNat (nbs N)) ++ [93]) from if_neg hb0] at k48
    have hl9 := txI_le (Int32.ofNat (nbs N))
    have hl8 := txI_len (Int32.ofNat (nbs N))
    refine J_if_eq (tgt := 48) (pc1 := 26) dX6_write_23 (by decide) (fun qq => absurd qq (nI_ne0 (by omega) (by omega))) rfl (fun qq => ?_)
    refine J_aload_n (i := 0) (q := 2) (pc1 := 27) dX6_write_26 rfl rfl rfl ?_
    refine J_getR (T := TX6) (f := 30) (i := 0) (f' := 53) (i' := 0) (pc1 := 30) (mxE_b (eC0 (nc := nc))) rfl rfl inX6 3 (by decide) rfl rfl flX6_26 rfl dX6_write_27 rfl ?_
    refine J_bipush (v := 91) (pc1 := 32) dX6_write_30 (by decide) rfl ?_
    have hT1 : ([] : List Nat).length + 1 ≤ 700 := by decide
    refine J_eqI (y := nI 91) (rfl) ?_
    refine J_appC (st := []) (pc1 := 35) (by decide) hw1 (hT1) (fun y z h1 h2 => hRcW hw1 (hT1) h1 h2) ⟨Nat.le_of_ble_eq_true rfl, Nat.le_of_ble_eq_true rfl⟩ (Nat.le_of_ble_eq_true rfl) wlX6_343 dX6_write_32 rfl (fun ada2 N2 ml2 arr2 ce2 sl2 hw2 => ?_)
    refine J_aload_n (i := 3) (q := 0) (pc1 := 36) dX6_write_35 rfl rfl rfl ?_
    refine J_getV (T := TX1) (pc1 := 39) (f := 42) (i := (5 * 0 + n)) 4 (v := nI (nbs N)) (ti_of hcl.2.2.2.1) (mxE_b (eC12 hk5)) rfl rfl inX1 (by decide) rfl flX6_181 rfl dX6_write_36 rfl ?_
    have hT3 : (([] : List Nat) ++ [91]).length + sb_lenI (Int32.ofNat (nbs N)) ≤ 700 := by rw [← hl8]; simp only [List.nil_append, List.length_cons, List.length_nil]; omega
    refine J_appI (st := []) (x := (Int32.ofNat (nbs N))) (pc1 := 42) hw2 (hT3) (fun y z h1 h2 => hRcW hw2 (hT3) h1 h2) ⟨Nat.le_of_ble_eq_true rfl, Nat.le_of_ble_eq_true rfl⟩ (Nat.le_of_ble_eq_true rfl) wlX6_347 dX6_write_39 rfl (fun ada3 N3 ml3 arr3 ce3 sl3 hw3 => ?_)
    refine J_bipush (v := 93) (pc1 := 44) dX6_write_42 (by decide) rfl ?_
    have hT4 : (([] : List Nat) ++ [91] ++ txI (Int32.ofNat (nbs N))).length + 1 ≤ 700 := by simp only [List.nil_append, List.length_append, List.length_cons, List.length_nil]; omega
    refine J_eqI (y := nI 93) (rfl) ?_
    refine J_appC (st := []) (pc1 := 47) (by decide) hw3 (hT4) (fun y z h1 h2 => hRcW hw3 (hT4) h1 h2) ⟨Nat.le_of_ble_eq_true rfl, Nat.le_of_ble_eq_true rfl⟩ (Nat.le_of_ble_eq_true rfl) wlX6_343 dX6_write_44 rfl (fun ada4 N4 ml4 arr4 ce4 sl4 hw4 => ?_)
    refine J_pop (pc1 := 48) dX6_write_47 rfl rfl ?_
    rw [show ([] : List Nat) ++ [91] ++ txI (Int32.ofNat (nbs N)) ++ [93] = [91] ++ (txI (Int32.ofNat (nbs N)) ++ [93]) from by simp] at hw4 ⊢
    exact k48 _ N4 _ _ ada4 ml4 arr4 hw4
end SB13
