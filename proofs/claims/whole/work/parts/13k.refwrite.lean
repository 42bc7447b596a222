/-! the reference writes a log -/
theorem wlX7_292 : Cond.methodLink RX7 292 yX7_writeNumber ∈ BIG := bigT8 (i := 188) rfl rfl
theorem imX7_writeNumber : Cond.instanceMethod yX7_writeNumber ∈ BIG := bigT8 (i := 190) rfl rfl
theorem seX7_writeNumber : Cond.selects yX7_writeNumber.cls yX7_writeNumber yX7_writeNumber ∈ BIG := bigS6 (i := 7) (q := (yX7_writeNumber, 14)) rfl
theorem cdX7_writeNumber : Cond.code yX7_writeNumber cX7_writeNumber 4 (none) ∈ BIG := bigT8 (i := 191) rfl rfl
theorem wcX7_writeNumber : wCv yX7_writeNumber cX7_writeNumber 4 (none) 1 := ⟨⟨imX7_writeNumber, seX7_writeNumber, iniX7, cdX7_writeNumber⟩, by decide +kernel⟩
theorem wlX7_295 : Cond.methodLink RX7 295 yX7_writeEntry ∈ BIG := bigT8 (i := 199) rfl rfl
theorem imX7_writeEntry : Cond.instanceMethod yX7_writeEntry ∈ BIG := bigT8 (i := 201) rfl rfl
theorem seX7_writeEntry : Cond.selects yX7_writeEntry.cls yX7_writeEntry yX7_writeEntry ∈ BIG := bigS6 (i := 8) (q := (yX7_writeEntry, 14)) rfl
theorem cdX7_writeEntry : Cond.code yX7_writeEntry cX7_writeEntry 4 (none) ∈ BIG := bigT8 (i := 202) rfl rfl
theorem wcX7_writeEntry : wCv yX7_writeEntry cX7_writeEntry 4 (none) 2 := ⟨⟨imX7_writeEntry, seX7_writeEntry, iniX7, cdX7_writeEntry⟩, by decide +kernel⟩
section SB10
variable (l : Launch) (D : va_G) (tc : Nat → ClassId) (sa : Nat → Nat)
variable {ad : Nat → Nat → Nat} {μ : gM} {S : sqSt} {B n : Nat} {a1 : Int32}
theorem wT_snoc (μ : gM) (p c : Nat) (T : List Nat) : wT μ p (T ++ [c]) = wL (wT μ p T) (p + T.length) c := by
  rw [wT_app]
  rfl
theorem kX7_writeEntry (hI : gI gE_R ad) (R : RA (μ 1 0) S) (L : LI B S) (hB : B < 1000000000) (hn : n < 5) (h1 : a1.toInt = (n : Int)) {j p0 : Nat} {e : sqE} (hj : (nlg (zno S n))[j]? = some e) (hbj : nbs (zno S n) ≤ j) (hcm0 : ncm (zno S n) ≤ (nlg (zno S n)).length) (hj9 : j < 1000000000) (h13 : μ 0 0 13 = nI p0) (hlen : p0 + ((txE e).length + (txC (zno S n) j).length) ≤ 700) : gMetG l yX7_writeEntry cX7_writeEntry 4 none ({ frames := 13, cells := 8, slots := 80, locals := 1100 } : Room) D gE_R gkd_R tc ad grh_R sa [.ref (ad 0 0), .int a1, .int (nI (j + 1))] μ (gSame gE_R gkd_R ad grh_R none (wT μ p0 (txE e ++ txC (zno S n) j))) := by
  have hR1 := (R.2.1 n hn).1
  have hcB : ncm (zno S n) < 1000000000 := by have := (L.2.2.2.1 n hn).2.1; omega
  refine gMetG_of hI ⟨by decide +kernel, Nat.le_of_ble_eq_true rfl⟩ (fun p e9 s m args below meth c sz hr hlk => ?_)
  show J p l e9 ({ frames := 13, cells := 8, slots := 80, locals := 1100 } : Room) s m args below meth c cX7_writeEntry 4 RX7 D gE_R gkd_R tc ad grh_R sa (gA gE_R ad sz) s.heap 0 0 (MQ below (gQG D tc gE_R ad sz (gSame gE_R gkd_R ad grh_R none (wT μ p0 (txE e ++ txC (zno S n) j)))) args s 8 80 (gA gE_R ad sz)) μ 0 [(0, .ref (ad 0 0)), (1, .int a1), (2, .int (nI (j + 1)))] []
  refine J_aload_n (i := 0) (q := 0) (pc1 := 1) dX7_writeEntry_0 rfl rfl rfl ?_
  refine J_iload_n (i := 1) (q := 1) (pc1 := 2) dX7_writeEntry_1 rfl rfl rfl ?_
  refine J_iload_n (i := 2) (q := 2) (pc1 := 3) dX7_writeEntry_2 rfl rfl rfl ?_
  refine J_iconst (v := 1) (pc1 := 4) dX7_writeEntry_3 (by decide) rfl ?_
  obtain ⟨rk, hk0, -, hk1, -⟩ := mX7_entryOf_ok (μ := μ) (a3 := 1) (p := 1) R L hB hn h1 hj hbj (nI_toInt (by omega)) rfl (by decide)
  have hrk := hk1 rfl
  have hce : 0 + 0 ≤ 8 := by decide
  have hsl : 0 + 0 ≤ 80 := by decide
  refine J_runM (o := some (.int rk)) (μ1 := μ) (pc1 := 7) (st1 := (.int rk) :: []) (ce := 0) (sl := 0) (J_hV (st := []) (As := [.int a1, .int (nI (j + 1)), .int 1]) (gMet.G hI ⟨rfl, rfl⟩ (kX7_entryOf l D tc sa ad hI a1 (nI (j + 1)) 1 μ _ hk0)) wcX7_entryOf rfl wlX7_63 rfl eR0 rfl rfl rfl ⟨Nat.le_of_ble_eq_true rfl, Nat.le_of_ble_eq_true rfl⟩ ⟨hce, hsl⟩ (Nat.le_of_ble_eq_true rfl) dX7_writeEntry_4) rfl rfl (Nat.add_zero _) (Nat.add_zero _) ?_
  refine J_istore_n (i := 3) (lv1 := [(3, .int rk), (0, .ref (ad 0 0)), (1, .int a1), (2, .int (nI (j + 1)))]) (pc1 := 8) dX7_writeEntry_7 rfl (by decide) rfl rfl ?_
  have k76 : ∀ (T : List Nat) (ce sl : Nat), ce ≤ 8 → sl ≤ 80 → T ++ txC (zno S n) j = txE e ++ txC (zno S n) j → p0 + (T ++ txC (zno S n) j).length ≤ 700 → J p l e9 ({ frames := 13, cells := 8, slots := 80, locals := 1100 } : Room) s m args below meth c cX7_writeEntry 4 RX7 D gE_R gkd_R tc ad grh_R sa (gA gE_R ad sz) s.heap ce sl (MQ below (gQG D tc gE_R ad sz (gSame gE_R gkd_R ad grh_R none (wT μ p0 (txE e ++ txC (zno S n) j)))) args s 8 80 (gA gE_R ad sz)) (wT μ p0 T) 76 [(3, .int rk), (0, .ref (ad 0 0)), (1, .int a1), (2, .int (nI (j + 1)))] [] := by
    intro T ce sl hce2 hsl2 hT hTl
    have hce : ce + 0 ≤ 8 := hce2
    have hsl : sl + 0 ≤ 80 := hsl2
    refine J_iload_n (i := 2) (q := 3) (pc1 := 77) dX7_writeEntry_76 rfl rfl rfl ?_
    refine J_aload_n (i := 0) (q := 1) (pc1 := 78) dX7_writeEntry_77 rfl rfl rfl ?_
    refine J_iload_n (i := 1) (q := 2) (pc1 := 79) dX7_writeEntry_78 rfl rfl rfl ?_
    refine J_iconst (v := 4) (pc1 := 80) dX7_writeEntry_79 (by decide) rfl ?_
    refine J_runM (o := some (.int (rN ((wT μ p0 T) 1 0) n 4))) (μ1 := (wT μ p0 T)) (pc1 := 83) (st1 := (.int (rN ((wT μ p0 T) 1 0) n 4)) :: [.int (nI (j + 1))]) (ce := ce) (sl := sl) (J_hV (st := [.int (nI (j + 1))]) (As := [.int a1, .int 4]) (gMet.G hI ⟨rfl, rfl⟩ (kX7_of l D tc sa ad hI a1 4 (wT μ p0 T) _ (mX7_of_ok (n := n) (k := 4) (wT μ p0 T) h1 rfl hn (by decide)))) wcX7_of rfl wlX7_38 rfl eR0 rfl rfl rfl ⟨Nat.le_of_ble_eq_true rfl, Nat.le_of_ble_eq_true rfl⟩ ⟨hce, hsl⟩ (Nat.le_of_ble_eq_true rfl) dX7_writeEntry_80) rfl rfl (Nat.add_zero _) (Nat.add_zero _) ?_
    refine J_eqI (y := nI (ncm (zno S n))) (by rw [wT_o (by decide) (by decide)]; exact ti_of (hR1.2.2.2.1)) ?_
    by_cases hcm : j + 1 ≤ ncm (zno S n)
    · rw [show txC (zno S n) j = [33] from if_pos hcm] at hT hTl
      refine J_icmp_gt (tgt := 92) (pc1 := 86) dX7_writeEntry_83 (by decide) (fun qq => absurd qq (nI_nlt (by omega) (by omega))) rfl (fun qq => ?_)
      refine J_aload_n (i := 0) (q := 1) (pc1 := 87) dX7_writeEntry_86 rfl rfl rfl ?_
      refine J_bipush (v := 33) (pc1 := 89) dX7_writeEntry_87 (by decide) rfl ?_
      refine J_eqI (y := nI 33) (rfl) ?_
      refine J_runM (o := none) (μ1 := (wL (wT μ p0 T) (p0 + (T).length) 33)) (pc1 := 92) (st1 := []) (ce := ce) (sl := sl) (J_hV (st := []) (As := [.int (nI 33)]) (gMet.G hI ⟨rfl, rfl⟩ (kX7_writeLetter l D tc sa ad hI (nI 33) (wT μ p0 T) (wL (wT μ p0 T) (p0 + (T).length) 33) (mX7_writeLetter_eq (wT_cnt T h13) (by simp only [List.length_append, List.length_cons, List.length_nil] at hTl; omega) (by decide)))) wcX7_writeLetter rfl wlX7_289 rfl eR0 rfl rfl rfl ⟨Nat.le_of_ble_eq_true rfl, Nat.le_of_ble_eq_true rfl⟩ ⟨hce, hsl⟩ (Nat.le_of_ble_eq_true rfl) dX7_writeEntry_89) rfl rfl (Nat.add_zero _) (Nat.add_zero _) ?_
      rw [← wT_snoc]
      rw [hT]
      exact J_vretG hr hlk ⟨rfl, rfl, rfl, rfl, rfl, by rw [show txC (zno S n) j = [33] from if_pos hcm]⟩ hI hce2 hsl2 dX7_writeEntry_92
    · rw [show txC (zno S n) j = [] from if_neg hcm, List.append_nil] at hT
      refine J_icmp_gt (tgt := 92) (pc1 := 86) dX7_writeEntry_83 (by decide) (fun qq => ?_) rfl (fun qq => absurd (nI_lt (by omega) (by omega)) qq)
      rw [hT]
      exact J_vretG hr hlk ⟨rfl, rfl, rfl, rfl, rfl, by rw [show txC (zno S n) j = [] from if_neg hcm]⟩ hI hce2 hsl2 dX7_writeEntry_92
  have k51 : ∀ (T : List Nat) (ce sl : Nat), ce + 4 ≤ 8 → sl + 40 ≤ 80 → T ++ (if e.2.1 = 3 then [45] else txI e.2.2) = txE e → p0 + (T ++ (if e.2.1 = 3 then [45] else txI e.2.2)).length + (txC (zno S n) j).length ≤ 700 → J p l e9 ({ frames := 13, cells := 8, slots := 80, locals := 1100 } : Room) s m args below meth c cX7_writeEntry 4 RX7 D gE_R gkd_R tc ad grh_R sa (gA gE_R ad sz) s.heap ce sl (MQ below (gQG D tc gE_R ad sz (gSame gE_R gkd_R ad grh_R none (wT μ p0 (txE e ++ txC (zno S n) j)))) args s 8 80 (gA gE_R ad sz)) (wT μ p0 T) 51 [(3, .int rk), (0, .ref (ad 0 0)), (1, .int a1), (2, .int (nI (j + 1)))] [] := by
    intro T ce sl hce4 hsl4 hT hTl
    have hce : ce + 0 ≤ 8 := by omega
    have hsl : sl + 0 ≤ 80 := by omega
    refine J_iload_n (i := 3) (q := 0) (pc1 := 52) dX7_writeEntry_51 rfl rfl rfl ?_
    refine J_iconst (v := 3) (pc1 := 53) dX7_writeEntry_52 (by decide) rfl ?_
    by_cases hk3 : e.2.1 = 3
    · rw [if_pos hk3] at hT hTl
      refine J_icmp_ne (tgt := 65) (pc1 := 56) dX7_writeEntry_53 (by decide) (fun qq => absurd qq (fun z => z (ti_eq (hrk.trans (congrArg Int.ofNat hk3)) rfl))) rfl (fun qq => ?_)
      refine J_aload_n (i := 0) (q := 1) (pc1 := 57) dX7_writeEntry_56 rfl rfl rfl ?_
      refine J_bipush (v := 45) (pc1 := 59) dX7_writeEntry_57 (by decide) rfl ?_
      refine J_eqI (y := nI 45) (rfl) ?_
      refine J_runM (o := none) (μ1 := (wL (wT μ p0 T) (p0 + (T).length) 45)) (pc1 := 62) (st1 := []) (ce := ce) (sl := sl) (J_hV (st := []) (As := [.int (nI 45)]) (gMet.G hI ⟨rfl, rfl⟩ (kX7_writeLetter l D tc sa ad hI (nI 45) (wT μ p0 T) (wL (wT μ p0 T) (p0 + (T).length) 45) (mX7_writeLetter_eq (wT_cnt T h13) (by simp only [List.length_append, List.length_cons, List.length_nil] at hTl; omega) (by decide)))) wcX7_writeLetter rfl wlX7_289 rfl eR0 rfl rfl rfl ⟨Nat.le_of_ble_eq_true rfl, Nat.le_of_ble_eq_true rfl⟩ ⟨hce, hsl⟩ (Nat.le_of_ble_eq_true rfl) dX7_writeEntry_59) rfl rfl (Nat.add_zero _) (Nat.add_zero _) ?_
      rw [← wT_snoc]
      refine J_goto (tgt := 76) dX7_writeEntry_62 (by decide) ?_
      exact k76 (T ++ [45]) ce sl (by omega) (by omega) (by rw [hT]) (by simp only [List.length_append, List.length_cons, List.length_nil] at hTl ⊢; omega)
    · rw [if_neg hk3] at hT hTl
      have hTl9 : p0 + (T.length + (txI e.2.2).length) ≤ 700 := by simp only [List.length_append] at hTl; omega
      refine J_icmp_ne (tgt := 65) (pc1 := 56) dX7_writeEntry_53 (by decide) (fun qq => ?_) rfl (fun qq => absurd qq (fun z => hk3 (by have h9 := congrArg Int32.toInt z; rw [hrk] at h9; exact Int.ofNat.inj h9)))
      refine J_aload_n (i := 0) (q := 1) (pc1 := 66) dX7_writeEntry_65 rfl rfl rfl ?_
      refine J_aload_n (i := 0) (q := 1) (pc1 := 67) dX7_writeEntry_66 rfl rfl rfl ?_
      refine J_iload_n (i := 1) (q := 2) (pc1 := 68) dX7_writeEntry_67 rfl rfl rfl ?_
      refine J_iload_n (i := 2) (q := 3) (pc1 := 69) dX7_writeEntry_68 rfl rfl rfl ?_
      refine J_iconst (v := 2) (pc1 := 70) dX7_writeEntry_69 (by decide) rfl ?_
      obtain ⟨rv, hv, -, -, hv2⟩ := mX7_entryOf_ok (μ := (wT μ p0 T)) (a3 := 2) (p := 2) (by rw [wT_o (by decide) (by decide)]; exact R) L hB hn h1 hj hbj (nI_toInt (by omega)) rfl (by decide)
      obtain rfl := hv2 rfl
      refine J_runM (o := some (.int e.2.2)) (μ1 := (wT μ p0 T)) (pc1 := 73) (st1 := (.int e.2.2) :: [.ref (ad 0 0)]) (ce := ce) (sl := sl) (J_hV (st := [.ref (ad 0 0)]) (As := [.int a1, .int (nI (j + 1)), .int 2]) (gMet.G hI ⟨rfl, rfl⟩ (kX7_entryOf l D tc sa ad hI a1 (nI (j + 1)) 2 (wT μ p0 T) _ hv)) wcX7_entryOf rfl wlX7_63 rfl eR0 rfl rfl rfl ⟨Nat.le_of_ble_eq_true rfl, Nat.le_of_ble_eq_true rfl⟩ ⟨hce, hsl⟩ (Nat.le_of_ble_eq_true rfl) dX7_writeEntry_70) rfl rfl (Nat.add_zero _) (Nat.add_zero _) ?_
      refine J_runM (o := none) (μ1 := (wTf (wT μ p0 T) (p0 + (T).length) (sb_decI (e.2.2)) (sb_lenI (e.2.2)))) (pc1 := 76) (st1 := []) (ce := (ce + 4)) (sl := (sl + 40)) (J_hV (st := []) (As := [.int (e.2.2)]) (kX7_writeNumber l D tc sa hI (x := e.2.2) (μ := (wT μ p0 T)) (len := p0 + (T).length) (wT_cnt T h13) (by rw [txI_len] at hTl9; omega)) wcX7_writeNumber rfl wlX7_292 rfl eR0 rfl rfl rfl ⟨Nat.le_of_ble_eq_true rfl, Nat.le_of_ble_eq_true rfl⟩ ⟨hce4, hsl4⟩ (Nat.le_of_ble_eq_true rfl) dX7_writeEntry_73) rfl rfl (rfl) (rfl) ?_
      rw [show wTf (wT μ p0 T) (p0 + (T).length) (sb_decI (e.2.2)) (sb_lenI (e.2.2)) = (wT μ p0 (T ++ txI e.2.2)) from by rw [wTf_I, wT_app]]
      exact k76 (T ++ txI e.2.2) (ce + 4) (sl + 40) (by omega) (by omega) (by rw [hT]) (by simp only [List.length_append] at hTl ⊢; omega)
  have k25 : ∀ (T : List Nat) (ce sl : Nat), ce + 4 ≤ 8 → sl + 40 ≤ 80 → T ++ ((if e.2.1 = 1 then [74] else if e.2.1 = 2 then [67] else ([] : List Nat)) ++ (if e.2.1 = 3 then [45] else txI e.2.2)) = txE e → p0 + (T ++ ((if e.2.1 = 1 then [74] else if e.2.1 = 2 then [67] else ([] : List Nat)) ++ (if e.2.1 = 3 then [45] else txI e.2.2))).length + (txC (zno S n) j).length ≤ 700 → J p l e9 ({ frames := 13, cells := 8, slots := 80, locals := 1100 } : Room) s m args below meth c cX7_writeEntry 4 RX7 D gE_R gkd_R tc ad grh_R sa (gA gE_R ad sz) s.heap ce sl (MQ below (gQG D tc gE_R ad sz (gSame gE_R gkd_R ad grh_R none (wT μ p0 (txE e ++ txC (zno S n) j)))) args s 8 80 (gA gE_R ad sz)) (wT μ p0 T) 25 [(3, .int rk), (0, .ref (ad 0 0)), (1, .int a1), (2, .int (nI (j + 1)))] [] := by
    intro T ce sl hce4 hsl4 hT hTl
    have hce : ce + 0 ≤ 8 := by omega
    have hsl : sl + 0 ≤ 80 := by omega
    refine J_iload_n (i := 3) (q := 0) (pc1 := 26) dX7_writeEntry_25 rfl rfl rfl ?_
    refine J_iconst (v := 1) (pc1 := 27) dX7_writeEntry_26 (by decide) rfl ?_
    by_cases hk1 : e.2.1 = 1
    · rw [if_pos hk1] at hTl
      refine J_icmp_eq (tgt := 35) (pc1 := 30) dX7_writeEntry_27 (by decide) (fun qq => ?_) rfl (fun qq => absurd (ti_eq (hrk.trans (congrArg Int.ofNat hk1)) rfl) qq)
      refine J_aload_n (i := 0) (q := 1) (pc1 := 36) dX7_writeEntry_35 rfl rfl rfl ?_
      refine J_iload_n (i := 3) (q := 0) (pc1 := 37) dX7_writeEntry_36 rfl rfl rfl ?_
      refine J_iconst (v := 1) (pc1 := 38) dX7_writeEntry_37 (by decide) rfl ?_
      refine J_icmp_ne (tgt := 46) (pc1 := 41) dX7_writeEntry_38 (by decide) (fun qq => absurd qq (fun z => z (ti_eq (hrk.trans (congrArg Int.ofNat hk1)) rfl))) rfl (fun qq => ?_)
      refine J_bipush (v := 74) (pc1 := 43) dX7_writeEntry_41 (by decide) rfl ?_
      refine J_goto (tgt := 48) dX7_writeEntry_43 (by decide) ?_
      refine J_eqI (y := nI 74) (rfl) ?_
      refine J_runM (o := none) (μ1 := (wL (wT μ p0 T) (p0 + (T).length) 74)) (pc1 := 51) (st1 := []) (ce := ce) (sl := sl) (J_hV (st := []) (As := [.int (nI 74)]) (gMet.G hI ⟨rfl, rfl⟩ (kX7_writeLetter l D tc sa ad hI (nI 74) (wT μ p0 T) (wL (wT μ p0 T) (p0 + (T).length) 74) (mX7_writeLetter_eq (wT_cnt T h13) (by simp only [List.length_append, List.length_cons, List.length_nil] at hTl; omega) (by decide)))) wcX7_writeLetter rfl wlX7_289 rfl eR0 rfl rfl rfl ⟨Nat.le_of_ble_eq_true rfl, Nat.le_of_ble_eq_true rfl⟩ ⟨hce, hsl⟩ (Nat.le_of_ble_eq_true rfl) dX7_writeEntry_48) rfl rfl (Nat.add_zero _) (Nat.add_zero _) ?_
      rw [← wT_snoc]
      exact k51 (T ++ [74]) ce sl (by omega) (by omega) (by rw [← hT, if_pos hk1]; simp only [List.append_assoc, List.append_nil, List.nil_append]) (by simp only [List.length_append, List.length_cons, List.length_nil] at hTl ⊢; omega)
    · rw [if_neg hk1] at hTl
      refine J_icmp_eq (tgt := 35) (pc1 := 30) dX7_writeEntry_27 (by decide) (fun qq => absurd qq (fun z => hk1 (by have h9 := congrArg Int32.toInt z; rw [hrk] at h9; exact Int.ofNat.inj h9))) rfl (fun qq => ?_)
      refine J_iload_n (i := 3) (q := 0) (pc1 := 31) dX7_writeEntry_30 rfl rfl rfl ?_
      refine J_iconst (v := 2) (pc1 := 32) dX7_writeEntry_31 (by decide) rfl ?_
      by_cases hk2 : e.2.1 = 2
      · rw [if_pos hk2] at hTl
        refine J_icmp_ne (tgt := 51) (pc1 := 35) dX7_writeEntry_32 (by decide) (fun qq => absurd qq (fun z => z (ti_eq (hrk.trans (congrArg Int.ofNat hk2)) rfl))) rfl (fun qq => ?_)
        refine J_aload_n (i := 0) (q := 1) (pc1 := 36) dX7_writeEntry_35 rfl rfl rfl ?_
        refine J_iload_n (i := 3) (q := 0) (pc1 := 37) dX7_writeEntry_36 rfl rfl rfl ?_
        refine J_iconst (v := 1) (pc1 := 38) dX7_writeEntry_37 (by decide) rfl ?_
        refine J_icmp_ne (tgt := 46) (pc1 := 41) dX7_writeEntry_38 (by decide) (fun qq => ?_) rfl (fun qq => absurd qq (fun z => hk1 (by have h9 := congrArg Int32.toInt z; rw [hrk] at h9; exact Int.ofNat.inj h9)))
        refine J_bipush (v := 67) (pc1 := 48) dX7_writeEntry_46 (by decide) rfl ?_
        refine J_eqI (y := nI 67) (rfl) ?_
        refine J_runM (o := none) (μ1 := (wL (wT μ p0 T) (p0 + (T).length) 67)) (pc1 := 51) (st1 := []) (ce := ce) (sl := sl) (J_hV (st := []) (As := [.int (nI 67)]) (gMet.G hI ⟨rfl, rfl⟩ (kX7_writeLetter l D tc sa ad hI (nI 67) (wT μ p0 T) (wL (wT μ p0 T) (p0 + (T).length) 67) (mX7_writeLetter_eq (wT_cnt T h13) (by simp only [List.length_append, List.length_cons, List.length_nil] at hTl; omega) (by decide)))) wcX7_writeLetter rfl wlX7_289 rfl eR0 rfl rfl rfl ⟨Nat.le_of_ble_eq_true rfl, Nat.le_of_ble_eq_true rfl⟩ ⟨hce, hsl⟩ (Nat.le_of_ble_eq_true rfl) dX7_writeEntry_48) rfl rfl (Nat.add_zero _) (Nat.add_zero _) ?_
        rw [← wT_snoc]
        exact k51 (T ++ [67]) ce sl (by omega) (by omega) (by rw [← hT, if_neg hk1, if_pos hk2]; simp only [List.append_assoc, List.append_nil, List.nil_append]) (by simp only [List.length_append, List.length_cons, List.length_nil] at hTl ⊢; omega)
      · rw [if_neg hk2] at hTl
        refine J_icmp_ne (tgt := 51) (pc1 := 35) dX7_writeEntry_32 (by decide) (fun qq => ?_) rfl (fun qq => absurd qq (fun z => hk2 (by have h9 := congrArg Int32.toInt z; rw [hrk] at h9; exact Int.ofNat.inj h9)))
        exact k51 T ce sl (by omega) (by omega) (by rw [← hT, if_neg hk1, if_neg hk2]; simp only [List.append_assoc, List.append_nil, List.nil_append]) (by simp only [List.length_append, List.length_cons, List.length_nil] at hTl ⊢; omega)
  have k19 : ∀ (T : List Nat) (ce sl : Nat), ce + 4 ≤ 8 → sl + 40 ≤ 80 → T ++ ([58] ++ ((if e.2.1 = 1 then [74] else if e.2.1 = 2 then [67] else ([] : List Nat)) ++ (if e.2.1 = 3 then [45] else txI e.2.2))) = txE e → p0 + (T ++ ([58] ++ ((if e.2.1 = 1 then [74] else if e.2.1 = 2 then [67] else ([] : List Nat)) ++ (if e.2.1 = 3 then [45] else txI e.2.2)))).length + (txC (zno S n) j).length ≤ 700 → J p l e9 ({ frames := 13, cells := 8, slots := 80, locals := 1100 } : Room) s m args below meth c cX7_writeEntry 4 RX7 D gE_R gkd_R tc ad grh_R sa (gA gE_R ad sz) s.heap ce sl (MQ below (gQG D tc gE_R ad sz (gSame gE_R gkd_R ad grh_R none (wT μ p0 (txE e ++ txC (zno S n) j)))) args s 8 80 (gA gE_R ad sz)) (wT μ p0 T) 19 [(3, .int rk), (0, .ref (ad 0 0)), (1, .int a1), (2, .int (nI (j + 1)))] [] := by
    intro T ce sl hce4 hsl4 hT hTl
    have hce : ce + 0 ≤ 8 := by omega
    have hsl : sl + 0 ≤ 80 := by omega
    refine J_aload_n (i := 0) (q := 1) (pc1 := 20) dX7_writeEntry_19 rfl rfl rfl ?_
    refine J_bipush (v := 58) (pc1 := 22) dX7_writeEntry_20 (by decide) rfl ?_
    refine J_eqI (y := nI 58) (rfl) ?_
    refine J_runM (o := none) (μ1 := (wL (wT μ p0 T) (p0 + (T).length) 58)) (pc1 := 25) (st1 := []) (ce := ce) (sl := sl) (J_hV (st := []) (As := [.int (nI 58)]) (gMet.G hI ⟨rfl, rfl⟩ (kX7_writeLetter l D tc sa ad hI (nI 58) (wT μ p0 T) (wL (wT μ p0 T) (p0 + (T).length) 58) (mX7_writeLetter_eq (wT_cnt T h13) (by simp only [List.length_append, List.length_cons, List.length_nil] at hTl; omega) (by decide)))) wcX7_writeLetter rfl wlX7_289 rfl eR0 rfl rfl rfl ⟨Nat.le_of_ble_eq_true rfl, Nat.le_of_ble_eq_true rfl⟩ ⟨hce, hsl⟩ (Nat.le_of_ble_eq_true rfl) dX7_writeEntry_22) rfl rfl (Nat.add_zero _) (Nat.add_zero _) ?_
    rw [← wT_snoc]
    exact k25 (T ++ [58]) ce sl hce4 hsl4 (by rw [← hT]; simp only [List.append_assoc]) (by simp only [List.length_append, List.length_cons, List.length_nil] at hTl ⊢; omega)
  refine J_aload_n (i := 0) (q := 1) (pc1 := 9) dX7_writeEntry_8 rfl rfl rfl ?_
  refine J_aload_n (i := 0) (q := 1) (pc1 := 10) dX7_writeEntry_9 rfl rfl rfl ?_
  refine J_iload_n (i := 1) (q := 2) (pc1 := 11) dX7_writeEntry_10 rfl rfl rfl ?_
  refine J_iload_n (i := 2) (q := 3) (pc1 := 12) dX7_writeEntry_11 rfl rfl rfl ?_
  refine J_iconst (v := 0) (pc1 := 13) dX7_writeEntry_12 (by decide) rfl ?_
  obtain ⟨rt, ht0, ht1, -, -⟩ := mX7_entryOf_ok (μ := μ) (a3 := 0) (p := 0) R L hB hn h1 hj hbj (nI_toInt (by omega)) rfl (by decide)
  obtain rfl := ti_of (ht1 rfl)
  refine J_runM (o := some (.int (Int32.ofNat (sqT e)))) (μ1 := μ) (pc1 := 16) (st1 := (.int (Int32.ofNat (sqT e))) :: [.ref (ad 0 0)]) (ce := 0) (sl := 0) (J_hV (st := [.ref (ad 0 0)]) (As := [.int a1, .int (nI (j + 1)), .int 0]) (gMet.G hI ⟨rfl, rfl⟩ (kX7_entryOf l D tc sa ad hI a1 (nI (j + 1)) 0 μ _ ht0)) wcX7_entryOf rfl wlX7_63 rfl eR0 rfl rfl rfl ⟨Nat.le_of_ble_eq_true rfl, Nat.le_of_ble_eq_true rfl⟩ ⟨hce, hsl⟩ (Nat.le_of_ble_eq_true rfl) dX7_writeEntry_13) rfl rfl (Nat.add_zero _) (Nat.add_zero _) ?_
  have hl1 := txI_len (Int32.ofNat (sqT e))
  have hl2 : p0 + (txI (Int32.ofNat (sqT e)) ++ ([58] ++ ((if e.2.1 = 1 then [74] else if e.2.1 = 2 then [67] else ([] : List Nat)) ++ (if e.2.1 = 3 then [45] else txI e.2.2)))).length + (txC (zno S n) j).length ≤ 700 := by
    have h9 := hlen
    unfold txE at h9
    omega
  have hl3 : p0 + sb_lenI (Int32.ofNat (sqT e)) ≤ 700 := by
    rw [← hl1]
    rw [List.length_append] at hl2
    omega
  refine J_runM (o := none) (μ1 := (wTf μ p0 (sb_decI (Int32.ofNat (sqT e))) (sb_lenI (Int32.ofNat (sqT e))))) (pc1 := 19) (st1 := []) (ce := 4) (sl := 40) (J_hV (st := []) (As := [.int (Int32.ofNat (sqT e))]) (kX7_writeNumber l D tc sa hI (x := Int32.ofNat (sqT e)) (μ := μ) (len := p0) h13 hl3) wcX7_writeNumber rfl wlX7_292 rfl eR0 rfl rfl rfl ⟨Nat.le_of_ble_eq_true rfl, Nat.le_of_ble_eq_true rfl⟩ ⟨(by decide), (by decide)⟩ (Nat.le_of_ble_eq_true rfl) dX7_writeEntry_16) rfl rfl (rfl) (rfl) ?_
  rw [wTf_I]
  exact k19 (txI (Int32.ofNat (sqT e))) 4 40 (by decide) (by decide) rfl hl2
theorem kX7_writeLog (hI : gI gE_R ad) (R : RA (μ 1 0) S) (L : LI B S) (hB : B < 1000000000) (hn : n < 5) (h1 : a1.toInt = (n : Int)) (hbl : nbs (zno S n) ≤ (nlg (zno S n)).length) (hcm0 : ncm (zno S n) ≤ (nlg (zno S n)).length) : gMetG l yX7_writeLog cX7_writeLog 4 none ({ frames := 14, cells := 200, slots := 2000, locals := 1300 } : Room) D gE_R gkd_R tc ad grh_R sa [.ref (ad 0 0), .int a1] μ (gSame gE_R gkd_R ad grh_R none (wT (w3 μ 0 0 13 0) 0 (txL (zno S n)))) := by
  have hR1 := (R.2.1 n hn).1
  have hl24 : (nlg (zno S n)).length ≤ nbs (zno S n) + 24 := hR1.2.2.2.2.2.2.2.2.2.2.1
  have hlB : (nlg (zno S n)).length < 1000000000 := by have := (L.2.2.2.1 n hn).2.1; omega
  have h13 : (w3 μ 0 0 13 0) 0 0 13 = nI 0 := w3_at _ _ _ _ _
  refine gMetG_of hI ⟨by decide +kernel, Nat.le_of_ble_eq_true rfl⟩ (fun p e9 s m args below meth c sz hr hlk => ?_)
  show J p l e9 ({ frames := 14, cells := 200, slots := 2000, locals := 1300 } : Room) s m args below meth c cX7_writeLog 4 RX7 D gE_R gkd_R tc ad grh_R sa (gA gE_R ad sz) s.heap 0 0 (MQ below (gQG D tc gE_R ad sz (gSame gE_R gkd_R ad grh_R none (wT (w3 μ 0 0 13 0) 0 (txL (zno S n))))) args s 200 2000 (gA gE_R ad sz)) μ 0 [(0, .ref (ad 0 0)), (1, .int a1)] []
  have kl : ∀ (d k : Nat), k + d = (nlg (zno S n)).length - nbs (zno S n) → k ≤ 24 → J p l e9 ({ frames := 14, cells := 200, slots := 2000, locals := 1300 } : Room) s m args below meth c cX7_writeLog 4 RX7 D gE_R gkd_R tc ad grh_R sa (gA gE_R ad sz) s.heap (4 + 8 * k) (40 + 80 * k) (MQ below (gQG D tc gE_R ad sz (gSame gE_R gkd_R ad grh_R none (wT (w3 μ 0 0 13 0) 0 (txL (zno S n))))) args s 200 2000 (gA gE_R ad sz)) (wT (w3 μ 0 0 13 0) 0 (txK (zno S n) k)) 38 [(3, .int (nI (nbs (zno S n) + k + 1))), (2, .int (nI (nbs (zno S n)))), (0, .ref (ad 0 0)), (1, .int a1)] [] := by
    intro d
    induction d with
    | zero =>
      intro k hk hk24
      refine J_iload_n (i := 3) (q := 0) (pc1 := 39) dX7_writeLog_38 rfl rfl rfl ?_
      refine J_aload_n (i := 0) (q := 2) (pc1 := 40) dX7_writeLog_39 rfl rfl rfl ?_
      refine J_iload_n (i := 1) (q := 3) (pc1 := 41) dX7_writeLog_40 rfl rfl rfl ?_
      obtain ⟨rl, hl0, hl1⟩ := mX7_last_ok (μ := (wT (w3 μ 0 0 13 0) 0 (txK (zno S n) k))) (by rw [wT_o (by decide) (by decide), w3_ne (by omega)]; exact R) L hB hn h1
      obtain rfl := ti_of hl1
      have hce : 4 + 8 * k + 0 ≤ 200 := by omega
      have hsl : 40 + 80 * k + 0 ≤ 2000 := by omega
      refine J_runM (o := some (.int (Int32.ofNat (nlg (zno S n)).length))) (μ1 := (wT (w3 μ 0 0 13 0) 0 (txK (zno S n) k))) (pc1 := 44) (st1 := (.int (Int32.ofNat (nlg (zno S n)).length)) :: [.int (nI (nbs (zno S n) + k + 1))]) (ce := (4 + 8 * k)) (sl := (40 + 80 * k)) (J_hV (st := [.int (nI (nbs (zno S n) + k + 1))]) (As := [.int a1]) (gMet.G hI ⟨rfl, rfl⟩ (kX7_last l D tc sa ad hI a1 (wT (w3 μ 0 0 13 0) 0 (txK (zno S n) k)) _ hl0)) wcX7_last rfl wlX7_67 rfl eR0 rfl rfl rfl ⟨Nat.le_of_ble_eq_true rfl, Nat.le_of_ble_eq_true rfl⟩ ⟨hce, hsl⟩ (Nat.le_of_ble_eq_true rfl) dX7_writeLog_41) rfl rfl (Nat.add_zero _) (Nat.add_zero _) ?_
      refine J_icmp_gt (tgt := 72) (pc1 := 47) dX7_writeLog_44 (by decide) (fun qq => ?_) rfl (fun qq => absurd (nI_lt (show (nlg (zno S n)).length < nbs (zno S n) + k + 1 by omega) (by omega)) qq)
      rw [show k = (nlg (zno S n)).length - nbs (zno S n) by omega]
      exact J_vretG hr hlk ⟨rfl, rfl, rfl, rfl, rfl, rfl⟩ hI (by omega) (by omega) dX7_writeLog_72
    | succ d ih0 =>
      intro k hk hk24
      have ih := fun (k : Nat) (h : k + d = (nlg (zno S n)).length - nbs (zno S n)) (h2 : k ≤ 24) => ih0 k h h2
      refine J_iload_n (i := 3) (q := 0) (pc1 := 39) dX7_writeLog_38 rfl rfl rfl ?_
      refine J_aload_n (i := 0) (q := 2) (pc1 := 40) dX7_writeLog_39 rfl rfl rfl ?_
      refine J_iload_n (i := 1) (q := 3) (pc1 := 41) dX7_writeLog_40 rfl rfl rfl ?_
      obtain ⟨rl, hl0, hl1⟩ := mX7_last_ok (μ := (wT (w3 μ 0 0 13 0) 0 (txK (zno S n) k))) (by rw [wT_o (by decide) (by decide), w3_ne (by omega)]; exact R) L hB hn h1
      obtain rfl := ti_of hl1
      have hce : 4 + 8 * k + 0 ≤ 200 := by omega
      have hsl : 40 + 80 * k + 0 ≤ 2000 := by omega
      refine J_runM (o := some (.int (Int32.ofNat (nlg (zno S n)).length))) (μ1 := (wT (w3 μ 0 0 13 0) 0 (txK (zno S n) k))) (pc1 := 44) (st1 := (.int (Int32.ofNat (nlg (zno S n)).length)) :: [.int (nI (nbs (zno S n) + k + 1))]) (ce := (4 + 8 * k)) (sl := (40 + 80 * k)) (J_hV (st := [.int (nI (nbs (zno S n) + k + 1))]) (As := [.int a1]) (gMet.G hI ⟨rfl, rfl⟩ (kX7_last l D tc sa ad hI a1 (wT (w3 μ 0 0 13 0) 0 (txK (zno S n) k)) _ hl0)) wcX7_last rfl wlX7_67 rfl eR0 rfl rfl rfl ⟨Nat.le_of_ble_eq_true rfl, Nat.le_of_ble_eq_true rfl⟩ ⟨hce, hsl⟩ (Nat.le_of_ble_eq_true rfl) dX7_writeLog_41) rfl rfl (Nat.add_zero _) (Nat.add_zero _) ?_
      refine J_icmp_gt (tgt := 72) (pc1 := 47) dX7_writeLog_44 (by decide) (fun qq => absurd qq (nI_nlt (show nbs (zno S n) + k + 1 ≤ (nlg (zno S n)).length by omega) (by omega))) rfl (fun qq => ?_)
      refine J_aload_n (i := 0) (q := 2) (pc1 := 48) dX7_writeLog_47 rfl rfl rfl ?_
      have hTl := txK_le (zno S n) (k + 1)
      have hT2 : txK (zno S n) (k + 1) = (txK (zno S n) k) ++ ((if (txK (zno S n) k) = [] then [] else [32]) ++ (txE ((nlg (zno S n)).getD (nbs (zno S n) + k) (0, 0, 0)) ++ txC (zno S n) (nbs (zno S n) + k))) := rfl
      rw [hT2] at hTl
      refine J_getV (T := TX7) (pc1 := 51) 13 (v := nI ((txK (zno S n) k)).length) (by rw [wT_cnt _ h13, Nat.zero_add]) eR0 rfl rfl inX7 (by decide) rfl flX7_269 rfl dX7_writeLog_48 rfl ?_
      obtain ⟨e, he⟩ : ∃ e, (nlg (zno S n))[nbs (zno S n) + k]? = some e := ⟨_, List.getElem?_eq_getElem (by omega)⟩
      have heD : (nlg (zno S n)).getD (nbs (zno S n) + k) (0, 0, 0) = e := by rw [List.getD_eq_getElem?_getD, he]; rfl
      rw [heD] at hT2 hTl
      have k60 : ∀ T : List Nat, T ++ (txE e ++ txC (zno S n) (nbs (zno S n) + k)) = txK (zno S n) (k + 1) → (T ++ (txE e ++ txC (zno S n) (nbs (zno S n) + k))).length ≤ 700 → J p l e9 ({ frames := 14, cells := 200, slots := 2000, locals := 1300 } : Room) s m args below meth c cX7_writeLog 4 RX7 D gE_R gkd_R tc ad grh_R sa (gA gE_R ad sz) s.heap (4 + 8 * k) (40 + 80 * k) (MQ below (gQG D tc gE_R ad sz (gSame gE_R gkd_R ad grh_R none (wT (w3 μ 0 0 13 0) 0 (txL (zno S n))))) args s 200 2000 (gA gE_R ad sz)) (wT (w3 μ 0 0 13 0) 0 T) 60 [(3, .int (nI (nbs (zno S n) + k + 1))), (2, .int (nI (nbs (zno S n)))), (0, .ref (ad 0 0)), (1, .int a1)] [] := by
        intro T hTT hTl2
        have hce8 : 4 + 8 * k + 8 ≤ 200 := by omega
        have hsl8 : 40 + 80 * k + 80 ≤ 2000 := by omega
        have hce9 : 4 + 8 * k + 8 = 4 + 8 * (k + 1) := by omega
        have hsl9 : 40 + 80 * k + 80 = 40 + 80 * (k + 1) := by omega
        refine J_aload_n (i := 0) (q := 2) (pc1 := 61) dX7_writeLog_60 rfl rfl rfl ?_
        refine J_iload_n (i := 1) (q := 3) (pc1 := 62) dX7_writeLog_61 rfl rfl rfl ?_
        refine J_iload_n (i := 3) (q := 0) (pc1 := 63) dX7_writeLog_62 rfl rfl rfl ?_
        refine J_runM (o := none) (μ1 := (wT (wT (w3 μ 0 0 13 0) 0 T) (0 + T.length) (txE e ++ txC (zno S n) (nbs (zno S n) + k)))) (pc1 := 66) (st1 := []) (ce := (4 + 8 * (k + 1))) (sl := (40 + 80 * (k + 1))) (J_hV (st := []) (As := [.int a1, .int (nI (nbs (zno S n) + k + 1))]) (kX7_writeEntry l D tc sa (e := e) (j := nbs (zno S n) + k) (p0 := 0 + T.length) (μ := (wT (w3 μ 0 0 13 0) 0 T)) hI (by rw [wT_o (by decide) (by decide), w3_ne (by omega)]; exact R) L hB hn h1 he (by omega) hcm0 (by omega) (wT_cnt T h13) (by simp only [List.length_append] at hTl2; omega)) wcX7_writeEntry rfl wlX7_295 rfl eR0 rfl rfl rfl ⟨Nat.le_of_ble_eq_true rfl, Nat.le_of_ble_eq_true rfl⟩ ⟨hce8, hsl8⟩ (Nat.le_of_ble_eq_true rfl) dX7_writeLog_63) rfl rfl (hce9) (hsl9) ?_
        rw [← wT_app, hTT]
        refine J_iinc (q := 0) (v := nI (nbs (zno S n) + (k + 1) + 1)) (lv1 := [(3, .int (nI (nbs (zno S n) + (k + 1) + 1))), (2, .int (nI (nbs (zno S n)))), (0, .ref (ad 0 0)), (1, .int a1)]) (pc1 := 69) dX7_writeLog_66 rfl (nI_1 _) (by decide) rfl rfl ?_
        refine J_goto (tgt := 38) dX7_writeLog_69 (by decide) ?_
        exact ih (k + 1) (by omega) (by omega)
      by_cases hnil : (txK (zno S n) k) = []
      · rw [if_pos hnil, List.nil_append] at hT2 hTl
        refine J_if_le (tgt := 60) (pc1 := 54) dX7_writeLog_51 (by decide) (fun qq => ?_) rfl (fun qq => absurd (by rw [hnil]; decide) qq)
        exact k60 _ hT2.symm (by omega)
      · rw [if_neg hnil] at hT2 hTl
        have hpos : 0 < (txK (zno S n) k).length := List.length_pos_iff.mpr hnil
        have hk9 := txK_le (zno S n) k
        refine J_if_le (tgt := 60) (pc1 := 54) dX7_writeLog_51 (by decide) (fun qq => absurd qq (nI_nle (by omega) (by omega))) rfl (fun qq => ?_)
        refine J_aload_n (i := 0) (q := 2) (pc1 := 55) dX7_writeLog_54 rfl rfl rfl ?_
        refine J_bipush (v := 32) (pc1 := 57) dX7_writeLog_55 (by decide) rfl ?_
        refine J_eqI (y := nI 32) (rfl) ?_
        refine J_runM (o := none) (μ1 := (wL (wT (w3 μ 0 0 13 0) 0 (txK (zno S n) k)) (0 + ((txK (zno S n) k)).length) 32)) (pc1 := 60) (st1 := []) (ce := (4 + 8 * k)) (sl := (40 + 80 * k)) (J_hV (st := []) (As := [.int (nI 32)]) (gMet.G hI ⟨rfl, rfl⟩ (kX7_writeLetter l D tc sa ad hI (nI 32) (wT (w3 μ 0 0 13 0) 0 (txK (zno S n) k)) (wL (wT (w3 μ 0 0 13 0) 0 (txK (zno S n) k)) (0 + ((txK (zno S n) k)).length) 32) (mX7_writeLetter_eq (wT_cnt (txK (zno S n) k) h13) (by omega) (by decide)))) wcX7_writeLetter rfl wlX7_289 rfl eR0 rfl rfl rfl ⟨Nat.le_of_ble_eq_true rfl, Nat.le_of_ble_eq_true rfl⟩ ⟨hce, hsl⟩ (Nat.le_of_ble_eq_true rfl) dX7_writeLog_57) rfl rfl (Nat.add_zero _) (Nat.add_zero _) ?_
        rw [← wT_snoc]
        exact k60 ((txK (zno S n) k) ++ [32]) (by rw [List.append_assoc]; exact hT2.symm) (by rw [List.append_assoc]; omega)
  have kl := fun (k : Nat) (h : k ≤ (nlg (zno S n)).length - nbs (zno S n)) => kl ((nlg (zno S n)).length - nbs (zno S n) - k) k (by omega) (by omega)
  refine J_aload_n (i := 0) (q := 0) (pc1 := 1) dX7_writeLog_0 rfl rfl rfl ?_
  refine J_iconst (v := 0) (pc1 := 2) dX7_writeLog_1 (by decide) rfl ?_
  refine J_putI (T := TX7) (pc1 := 5) eR0 rfl rfl inX7 tyX7 tyX7_ok nmX7 13 (by decide) rfl (fun _ _ _ _ => rfl) flX7_269 rfl rfl rfl rfl dX7_writeLog_2 rfl ?_
  refine J_aload_n (i := 0) (q := 0) (pc1 := 6) dX7_writeLog_5 rfl rfl rfl ?_
  refine J_iload_n (i := 1) (q := 1) (pc1 := 7) dX7_writeLog_6 rfl rfl rfl ?_
  refine J_bipush (v := 7) (pc1 := 9) dX7_writeLog_7 (by decide) rfl ?_
  have hce : 0 + 0 ≤ 200 := by decide
  have hsl : 0 + 0 ≤ 2000 := by decide
  refine J_runM (o := some (.int (rN ((w3 μ 0 0 13 0) 1 0) n 7))) (μ1 := (w3 μ 0 0 13 0)) (pc1 := 12) (st1 := (.int (rN ((w3 μ 0 0 13 0) 1 0) n 7)) :: []) (ce := 0) (sl := 0) (J_hV (st := []) (As := [.int a1, .int 7]) (gMet.G hI ⟨rfl, rfl⟩ (kX7_of l D tc sa ad hI a1 7 (w3 μ 0 0 13 0) _ (mX7_of_ok (n := n) (k := 7) (w3 μ 0 0 13 0) h1 rfl hn (by decide)))) wcX7_of rfl wlX7_38 rfl eR0 rfl rfl rfl ⟨Nat.le_of_ble_eq_true rfl, Nat.le_of_ble_eq_true rfl⟩ ⟨hce, hsl⟩ (Nat.le_of_ble_eq_true rfl) dX7_writeLog_9) rfl rfl (Nat.add_zero _) (Nat.add_zero _) ?_
  refine J_eqI (y := nI (nbs (zno S n))) (by rw [w3_ne (by omega)]; exact ti_of hR1.2.2.2.2.1) ?_
  refine J_istore_n (i := 2) (lv1 := [(2, .int (nI (nbs (zno S n)))), (0, .ref (ad 0 0)), (1, .int a1)]) (pc1 := 13) dX7_writeLog_12 rfl (by decide) rfl rfl ?_
  refine J_iload_n (i := 2) (q := 0) (pc1 := 14) dX7_writeLog_13 rfl rfl rfl ?_
  have k34 : J p l e9 ({ frames := 14, cells := 200, slots := 2000, locals := 1300 } : Room) s m args below meth c cX7_writeLog 4 RX7 D gE_R gkd_R tc ad grh_R sa (gA gE_R ad sz) s.heap 4 40 (MQ below (gQG D tc gE_R ad sz (gSame gE_R gkd_R ad grh_R none (wT (w3 μ 0 0 13 0) 0 (txL (zno S n))))) args s 200 2000 (gA gE_R ad sz)) (wT (w3 μ 0 0 13 0) 0 (txK (zno S n) 0)) 34 [(2, .int (nI (nbs (zno S n)))), (0, .ref (ad 0 0)), (1, .int a1)] [] := by
    refine J_iload_n (i := 2) (q := 0) (pc1 := 35) dX7_writeLog_34 rfl rfl rfl ?_
    refine J_iconst (v := 1) (pc1 := 36) dX7_writeLog_35 (by decide) rfl ?_
    refine J_iadd (pc1 := 37) dX7_writeLog_36 rfl ?_
    refine J_eqI (y := nI (nbs (zno S n) + 0 + 1)) (nI_1 _) ?_
    refine J_istore_n (i := 3) (lv1 := [(3, .int (nI (nbs (zno S n) + 0 + 1))), (2, .int (nI (nbs (zno S n)))), (0, .ref (ad 0 0)), (1, .int a1)]) (pc1 := 38) dX7_writeLog_37 rfl (by decide) rfl rfl ?_
    exact kl 0 (by omega)
  by_cases hb0 : nbs (zno S n) = 0
  · rw [show txK (zno S n) 0 = [] from if_pos hb0] at k34
    refine J_if_eq (tgt := 34) (pc1 := 17) dX7_writeLog_14 (by decide) (fun qq => ?_) rfl (fun qq => absurd (by rw [hb0]; rfl) qq)
    exact J_widen (by decide) (by decide) k34
  · rw [show txK (zno S n) 0 = [91] ++ (txI (Int32.ofNat (nbs (zno S n))) ++ [93]) from if_neg hb0] at k34
    have hl9 := txI_le (Int32.ofNat (nbs (zno S n)))
    refine J_if_eq (tgt := 34) (pc1 := 17) dX7_writeLog_14 (by decide) (fun qq => absurd qq (nI_ne0 (by omega) (by omega))) rfl (fun qq => ?_)
    refine J_aload_n (i := 0) (q := 1) (pc1 := 18) dX7_writeLog_17 rfl rfl rfl ?_
    refine J_bipush (v := 91) (pc1 := 20) dX7_writeLog_18 (by decide) rfl ?_
    refine J_eqI (y := nI 91) (rfl) ?_
    refine J_runM (o := none) (μ1 := (wL (w3 μ 0 0 13 0) 0 91)) (pc1 := 23) (st1 := []) (ce := 0) (sl := 0) (J_hV (st := []) (As := [.int (nI 91)]) (gMet.G hI ⟨rfl, rfl⟩ (kX7_writeLetter l D tc sa ad hI (nI 91) (w3 μ 0 0 13 0) (wL (w3 μ 0 0 13 0) 0 91) (mX7_writeLetter_eq h13 (by decide) (by decide)))) wcX7_writeLetter rfl wlX7_289 rfl eR0 rfl rfl rfl ⟨Nat.le_of_ble_eq_true rfl, Nat.le_of_ble_eq_true rfl⟩ ⟨hce, hsl⟩ (Nat.le_of_ble_eq_true rfl) dX7_writeLog_20) rfl rfl (Nat.add_zero _) (Nat.add_zero _) ?_
    rw [← wT_one]
    refine J_aload_n (i := 0) (q := 1) (pc1 := 24) dX7_writeLog_23 rfl rfl rfl ?_
    refine J_iload_n (i := 2) (q := 0) (pc1 := 25) dX7_writeLog_24 rfl rfl rfl ?_
    have hl8 : 0 + [91].length + sb_lenI (Int32.ofNat (nbs (zno S n))) ≤ 700 := by rw [← txI_len]; simp only [List.length_cons, List.length_nil]; omega
    refine J_runM (o := none) (μ1 := (wTf (wT (w3 μ 0 0 13 0) 0 [91]) (0 + [91].length) (sb_decI (Int32.ofNat (nbs (zno S n)))) (sb_lenI (Int32.ofNat (nbs (zno S n)))))) (pc1 := 28) (st1 := []) (ce := 4) (sl := 40) (J_hV (st := []) (As := [.int (Int32.ofNat (nbs (zno S n)))]) (kX7_writeNumber l D tc sa hI (x := Int32.ofNat (nbs (zno S n))) (μ := (wT (w3 μ 0 0 13 0) 0 [91])) (len := 0 + [91].length) (wT_cnt [91] h13) hl8) wcX7_writeNumber rfl wlX7_292 rfl eR0 rfl rfl rfl ⟨Nat.le_of_ble_eq_true rfl, Nat.le_of_ble_eq_true rfl⟩ ⟨(by decide), (by decide)⟩ (Nat.le_of_ble_eq_true rfl) dX7_writeLog_25) rfl rfl (rfl) (rfl) ?_
    rw [wTf_I, ← wT_app]
    have hce : 4 + 0 ≤ 200 := by decide
    have hsl : 40 + 0 ≤ 2000 := by decide
    generalize hG : [91] ++ txI (Int32.ofNat (nbs (zno S n))) = T at *
    have hTT : T ++ [93] = [91] ++ (txI (Int32.ofNat (nbs (zno S n))) ++ [93]) := by rw [← hG, List.append_assoc]
    have hT9 : T.length < 700 := by rw [← hG, List.length_append]; simp only [List.length_cons, List.length_nil]; omega
    refine J_aload_n (i := 0) (q := 1) (pc1 := 29) dX7_writeLog_28 rfl rfl rfl ?_
    refine J_bipush (v := 93) (pc1 := 31) dX7_writeLog_29 (by decide) rfl ?_
    refine J_eqI (y := nI 93) (rfl) ?_
    refine J_runM (o := none) (μ1 := (wL (wT (w3 μ 0 0 13 0) 0 T) (0 + (T).length) 93)) (pc1 := 34) (st1 := []) (ce := 4) (sl := 40) (J_hV (st := []) (As := [.int (nI 93)]) (gMet.G hI ⟨rfl, rfl⟩ (kX7_writeLetter l D tc sa ad hI (nI 93) (wT (w3 μ 0 0 13 0) 0 T) (wL (wT (w3 μ 0 0 13 0) 0 T) (0 + (T).length) 93) (mX7_writeLetter_eq (wT_cnt T h13) (by omega) (by decide)))) wcX7_writeLetter rfl wlX7_289 rfl eR0 rfl rfl rfl ⟨Nat.le_of_ble_eq_true rfl, Nat.le_of_ble_eq_true rfl⟩ ⟨hce, hsl⟩ (Nat.le_of_ble_eq_true rfl) dX7_writeLog_31) rfl rfl (Nat.add_zero _) (Nat.add_zero _) ?_
    rw [← wT_snoc]
    rw [hTT]
    exact k34
end SB10
