/-! Integer.getChars -/
section SB6b
variable (l : Launch) (D : va_G) (tc : Nat → ClassId) (sa : Nat → Nat)
theorem gc_loop {p : Program} {e : Env} {R : Room} {s : State} {m : MethodId} {args : Array Value} {below : List Frame} {meth : Method} {c : Code} {A : Nat → Prop} {cells slots : Nat} {Q : State → Prop} {ad : Nat → Nat → Nat} {N n n0 cp : Nat} {ml sg : Int32} (hm : cp ≤ 65536) : ∀ (f w p0 : Nat) (a : Nat → Int32), w < f → w ≤ 2 ^ 31 → p0 = n0 + sb_dg w → p0 ≤ cp →
    (∀ a' : Nat → Int32, (∀ j, j < n0 ∨ p0 ≤ j → a' j = a j) → (∀ i, i < sb_dg w → a' (p0 - 1 - i) = sb_b (48 + w / 10 ^ i % 10)) → (sb_Fit a → sb_Fit a') → J p l e R s m args below meth c cJ6_getChars_ba4f3 7 RJ6 D sE (sKd cp N) tc ad sRh sa A s.heap cells slots Q (sM n ml a') 104 [(6, .int sg), (5, .int (nI n0)), (2, .ref (ad 1 0))] []) →
    J p l e R s m args below meth c cJ6_getChars_ba4f3 7 RJ6 D sE (sKd cp N) tc ad sRh sa A s.heap cells slots Q (sM n ml a) 22 [(0, .int (-nI w)), (6, .int sg), (5, .int (nI p0)), (2, .ref (ad 1 0))] [] := by
  intro f
  induction f with
  | zero =>
    intro w p0 a h
    omega
  | succ f ih =>
    intro w p0 a hwf hw hp hpm hK
    have hd1 := (sb_dg_in w).1
    refine J_iload_n (i := 0) (q := 0) (pc1 := 23) dJ6_getChars_ba4f3_22 rfl rfl rfl ?_
    refine J_bipush (v := (-100)) (pc1 := 25) dJ6_getChars_ba4f3_23 (by decide) rfl ?_
    by_cases h100 : w < 100
    · skip
      refine J_icmp_gt (tgt := 72) (pc1 := 28) dJ6_getChars_ba4f3_25 (by decide) (fun qq => ?_) rfl (fun qq => absurd (show -nI 100 < -nI w from (sb_nltB (by decide) hw).mpr h100) qq)
      refine J_aload_n (i := 2) (q := 3) (pc1 := 73) dJ6_getChars_ba4f3_72 rfl rfl rfl ?_
      refine J_iinc (q := 2) (v := nI (p0 - 1)) (lv1 := [(5, .int (nI (p0 - 1))), (0, .int (-nI w)), (6, .int sg), (2, .ref (ad 1 0))]) (pc1 := 76) dJ6_getChars_ba4f3_73 rfl (sb_m1 (by omega)) (by decide) rfl rfl ?_
      refine J_iload (i := 5) (q := 0) (pc1 := 78) dJ6_getChars_ba4f3_76 rfl rfl ?_
      refine J_dOnes (own := RJ6) (pc1 := 81) flJ6_83 dJ6_getChars_ba4f3_78 rfl ?_
      refine J_iload_n (i := 0) (q := 1) (pc1 := 82) dJ6_getChars_ba4f3_81 rfl rfl rfl ?_
      refine J_ineg (pc1 := 83) dJ6_getChars_ba4f3_82 rfl ?_
      refine J_eqI (y := nI w) (Int32.neg_neg) ?_
      refine J_dOnesAt (j := w) (pc1 := 84) rfl (h100) dJ6_getChars_ba4f3_83 rfl ?_
      refine J_bast (ix := p0 - 1) (z := sb_b (48 + w % 10)) (pc1 := 85) (nI_clamp (by omega)) rfl sE1 rfl (vp_in_nI (by omega) (by omega)) dJ6_getChars_ba4f3_84 rfl ?_
      rw [sM_arr]
      refine J_iload_n (i := 0) (q := 1) (pc1 := 86) dJ6_getChars_ba4f3_85 rfl rfl rfl ?_
      refine J_bipush (v := (-9)) (pc1 := 88) dJ6_getChars_ba4f3_86 (by decide) rfl ?_
      by_cases h9 : w < 10
      · have hd : sb_dg w = 1 := if_pos h9
        refine J_icmp_ge (tgt := 104) (pc1 := 91) dJ6_getChars_ba4f3_88 (by decide) (fun qq => ?_) rfl (fun qq => absurd (show -nI 9 ≤ -nI w from (sb_nleB (by decide) hw).mpr (by omega)) qq)
        rw [show nI (p0 - 1) = nI n0 from congrArg nI (by omega)]
        refine J_sub [2, 0, 3] rfl (hK _ (fun j hj => pk_un (by omega)) (fun i hi => ?_) (fun hf => sb_fitU hf (sb_fitB _)))
        obtain rfl : i = 0 := by omega
        rw [Nat.sub_zero, pk_us, Nat.pow_zero, Nat.div_one]
      · have hd : sb_dg w = 2 := by rw [sb_dg, if_neg h9, if_pos h100]
        have d2 : w / 10 % 10 = w / 10 := by omega
        refine J_icmp_ge (tgt := 104) (pc1 := 91) dJ6_getChars_ba4f3_88 (by decide) (fun qq => absurd qq (fun z => by have := (sb_nleB (by decide) hw).mp (show -nI 9 ≤ -nI w from z); omega)) rfl (fun qq => ?_)
        refine J_aload_n (i := 2) (q := 3) (pc1 := 92) dJ6_getChars_ba4f3_91 rfl rfl rfl ?_
        refine J_iinc (q := 0) (v := nI (p0 - 1 - 1)) (lv1 := [(5, .int (nI (p0 - 1 - 1))), (0, .int (-nI w)), (6, .int sg), (2, .ref (ad 1 0))]) (pc1 := 95) dJ6_getChars_ba4f3_92 rfl (sb_m1 (by omega)) (by decide) rfl rfl ?_
        refine J_iload (i := 5) (q := 0) (pc1 := 97) dJ6_getChars_ba4f3_95 rfl rfl ?_
        refine J_dTens (own := RJ6) (pc1 := 100) flJ6_87 dJ6_getChars_ba4f3_97 rfl ?_
        refine J_iload_n (i := 0) (q := 1) (pc1 := 101) dJ6_getChars_ba4f3_100 rfl rfl rfl ?_
        refine J_ineg (pc1 := 102) dJ6_getChars_ba4f3_101 rfl ?_
        refine J_eqI (y := nI w) (Int32.neg_neg) ?_
        refine J_dTensAt (j := w) (pc1 := 103) rfl (h100) dJ6_getChars_ba4f3_102 rfl ?_
        refine J_bast (ix := p0 - 1 - 1) (z := sb_b (48 + w / 10)) (pc1 := 104) (nI_clamp (by omega)) rfl sE1 rfl (vp_in_nI (by omega) (by omega)) dJ6_getChars_ba4f3_103 rfl ?_
        rw [sM_arr]
        rw [show nI (p0 - 1 - 1) = nI n0 from congrArg nI (by omega)]
        refine J_sub [2, 0, 3] rfl (hK _ (fun j hj => by rw [pk_un (by omega), pk_un (by omega)]) (fun i hi => ?_) (fun hf => sb_fitU (sb_fitU hf (sb_fitB _)) (sb_fitB _)))
        obtain rfl | rfl : i = 0 ∨ i = 1 := by omega
        · rw [Nat.sub_zero, pk_un (by omega), pk_us, Nat.pow_zero, Nat.div_one]
        · rw [pk_us, Nat.pow_one, d2]
    · have hd := sb_dg100B (w := w) (by omega) hw
      have hd2 := (sb_dg_in (w / 100)).1
      have t1 : w % 100 % 10 = w % 10 := by omega
      have t2 : w % 100 / 10 = w / 10 % 10 := by omega
      refine J_icmp_gt (tgt := 72) (pc1 := 28) dJ6_getChars_ba4f3_25 (by decide) (fun qq => absurd qq (fun z => h100 ((sb_nltB (by decide) hw).mp (show -nI 100 < -nI w from z)))) rfl (fun qq => ?_)
      refine J_iload_n (i := 0) (q := 0) (pc1 := 29) dJ6_getChars_ba4f3_28 rfl rfl rfl ?_
      refine J_bipush (v := 100) (pc1 := 31) dJ6_getChars_ba4f3_29 (by decide) rfl ?_
      refine J_idiv (pc1 := 32) dJ6_getChars_ba4f3_31 (by decide) rfl ?_
      refine J_eqI (y := -nI (w / 100)) (sb_ndivB hw) ?_
      refine J_istore_n (i := 3) (lv1 := [(3, .int (-nI (w / 100))), (0, .int (-nI w)), (6, .int sg), (5, .int (nI p0)), (2, .ref (ad 1 0))]) (pc1 := 33) dJ6_getChars_ba4f3_32 rfl (by decide) rfl rfl ?_
      refine J_iload_n (i := 3) (q := 0) (pc1 := 34) dJ6_getChars_ba4f3_33 rfl rfl rfl ?_
      refine J_bipush (v := 100) (pc1 := 36) dJ6_getChars_ba4f3_34 (by decide) rfl ?_
      refine J_imul (pc1 := 37) dJ6_getChars_ba4f3_36 rfl ?_
      refine J_iload_n (i := 0) (q := 1) (pc1 := 38) dJ6_getChars_ba4f3_37 rfl rfl rfl ?_
      refine J_isub (pc1 := 39) dJ6_getChars_ba4f3_38 rfl ?_
      refine J_eqI (y := nI (w % 100)) (sb_nremB hw) ?_
      refine J_istore (i := 4) (lv1 := [(4, .int (nI (w % 100))), (3, .int (-nI (w / 100))), (0, .int (-nI w)), (6, .int sg), (5, .int (nI p0)), (2, .ref (ad 1 0))]) (pc1 := 41) dJ6_getChars_ba4f3_39 (by decide) rfl rfl ?_
      refine J_iload_n (i := 3) (q := 1) (pc1 := 42) dJ6_getChars_ba4f3_41 rfl rfl rfl ?_
      refine J_istore_n (i := 0) (lv1 := [(0, .int (-nI (w / 100))), (4, .int (nI (w % 100))), (3, .int (-nI (w / 100))), (6, .int sg), (5, .int (nI p0)), (2, .ref (ad 1 0))]) (pc1 := 43) dJ6_getChars_ba4f3_42 rfl (by decide) rfl rfl ?_
      refine J_aload_n (i := 2) (q := 5) (pc1 := 44) dJ6_getChars_ba4f3_43 rfl rfl rfl ?_
      refine J_iinc (q := 4) (v := nI (p0 - 1)) (lv1 := [(5, .int (nI (p0 - 1))), (0, .int (-nI (w / 100))), (4, .int (nI (w % 100))), (3, .int (-nI (w / 100))), (6, .int sg), (2, .ref (ad 1 0))]) (pc1 := 47) dJ6_getChars_ba4f3_44 rfl (sb_m1 (by omega)) (by decide) rfl rfl ?_
      refine J_iload (i := 5) (q := 0) (pc1 := 49) dJ6_getChars_ba4f3_47 rfl rfl ?_
      refine J_dOnes (own := RJ6) (pc1 := 52) flJ6_83 dJ6_getChars_ba4f3_49 rfl ?_
      refine J_iload (i := 4) (q := 2) (pc1 := 54) dJ6_getChars_ba4f3_52 rfl rfl ?_
      refine J_dOnesAt (j := w % 100) (pc1 := 55) rfl (Nat.mod_lt _ (by decide)) dJ6_getChars_ba4f3_54 rfl ?_
      refine J_bast (ix := p0 - 1) (z := sb_b (48 + w % 100 % 10)) (pc1 := 56) (nI_clamp (by omega)) rfl sE1 rfl (vp_in_nI (by omega) (by omega)) dJ6_getChars_ba4f3_55 rfl ?_
      rw [sM_arr]
      refine J_aload_n (i := 2) (q := 5) (pc1 := 57) dJ6_getChars_ba4f3_56 rfl rfl rfl ?_
      refine J_iinc (q := 0) (v := nI (p0 - 1 - 1)) (lv1 := [(5, .int (nI (p0 - 1 - 1))), (0, .int (-nI (w / 100))), (4, .int (nI (w % 100))), (3, .int (-nI (w / 100))), (6, .int sg), (2, .ref (ad 1 0))]) (pc1 := 60) dJ6_getChars_ba4f3_57 rfl (sb_m1 (by omega)) (by decide) rfl rfl ?_
      refine J_iload (i := 5) (q := 0) (pc1 := 62) dJ6_getChars_ba4f3_60 rfl rfl ?_
      refine J_dTens (own := RJ6) (pc1 := 65) flJ6_87 dJ6_getChars_ba4f3_62 rfl ?_
      refine J_iload (i := 4) (q := 2) (pc1 := 67) dJ6_getChars_ba4f3_65 rfl rfl ?_
      refine J_dTensAt (j := w % 100) (pc1 := 68) rfl (Nat.mod_lt _ (by decide)) dJ6_getChars_ba4f3_67 rfl ?_
      refine J_bast (ix := p0 - 1 - 1) (z := sb_b (48 + w % 100 / 10)) (pc1 := 69) (nI_clamp (by omega)) rfl sE1 rfl (vp_in_nI (by omega) (by omega)) dJ6_getChars_ba4f3_68 rfl ?_
      rw [sM_arr]
      refine J_goto (tgt := 22) dJ6_getChars_ba4f3_69 (by decide) ?_
      rw [t1, t2]
      refine J_sub [1, 4, 0, 5] rfl (ih (w / 100) (p0 - 1 - 1) _ (by omega) (by omega) (by omega) (by omega) (fun a' h1 h2 h3 => ?_))
      refine hK a' (fun j hj => by rw [h1 j (by omega), pk_un (by omega), pk_un (by omega)]) (fun i hi => ?_) (fun hf => h3 (sb_fitU (sb_fitU hf (sb_fitB _)) (sb_fitB _)))
      match i, hi with
      | 0, _ => rw [Nat.sub_zero, h1 _ (by omega), pk_un (by omega), pk_us, Nat.pow_zero, Nat.div_one]
      | 1, _ => rw [h1 _ (by omega), pk_us, Nat.pow_one]
      | k + 2, hi => rw [show p0 - 1 - (k + 2) = p0 - 1 - 1 - 1 - k by omega, h2 k (by omega), Nat.div_div_eq_div_mul, show 100 * 10 ^ k = 10 ^ (k + 2) by rw [show k + 2 = k + 1 + 1 from rfl, Nat.pow_succ, Nat.pow_succ]; omega]
/-- what getChars leaves behind: the letters t from n0 on -/
def sPg (n n0 w : Nat) (t : Nat → Nat) (ml : Int32) (arr : Nat → Int32) (cp N : Nat) (ad : Nat → Nat → Nat) : gPo := fun o1 E1 kd1 ad1 rh1 μ1 =>
  o1 = some (.int (nI n0)) ∧ E1 = sE ∧ kd1 = sKd cp N ∧ ad1 = ad ∧ rh1 = sRh ∧ ∃ a2, μ1 = sM n ml a2 ∧ (∀ j, j < n0 → a2 j = arr j) ∧ (∀ i, i < w → t i < 256 ∧ a2 (n0 + i) = sb_b (t i)) ∧ (sb_Fit arr → sb_Fit a2)
def sb_decN (v : Nat) : Nat → Nat := fun i => if i = 0 then 45 else sb_dec v (i - 1)
theorem kJ6_getChars {ad : Nat → Nat → Nat} (hI : gI sE ad) {N n cp : Nat} {ml : Int32} {arr : Nat → Int32} {n0 p0 v : Nat} (hm : cp ≤ 65536) (hv : v < 2 ^ 31) (hp : p0 = n0 + (sb_dg v)) (hpm : p0 ≤ cp) : gMetG l yJ6_getChars_ba4f3 cJ6_getChars_ba4f3 7 (some .int) ({ frames := 0, cells := 0, slots := 0, locals := 40 } : Room) D sE (sKd cp N) tc ad sRh sa [.int (nI v), .int (nI p0), .ref (ad 1 0)] (sM n ml arr) (sPg n n0 (sb_dg v) (sb_dec v) ml arr cp N ad) := by
  have hdv := sb_dg_in v
  refine gMetG_of hI ⟨by decide +kernel, Nat.le_of_ble_eq_true rfl⟩ (fun p e s m args below meth c sz hr hlk => ?_)
  show J p l e ({ frames := 0, cells := 0, slots := 0, locals := 40 } : Room) s m args below meth c cJ6_getChars_ba4f3 7 RJ6 D sE (sKd cp N) tc ad sRh sa (gA sE ad sz) s.heap 0 0 (MQ below (gQG D tc sE ad sz (sPg n n0 (sb_dg v) (sb_dec v) ml arr cp N ad)) args s (0) (0) (gA sE ad sz)) (sM n ml arr) 0 [(0, .int (nI v)), (1, .int (nI p0)), (2, .ref (ad 1 0))] []
  refine J_iload_n (i := 1) (q := 1) (pc1 := 1) dJ6_getChars_ba4f3_0 rfl rfl rfl ?_
  refine J_istore (i := 5) (lv1 := [(5, .int (nI p0)), (0, .int (nI v)), (1, .int (nI p0)), (2, .ref (ad 1 0))]) (pc1 := 3) dJ6_getChars_ba4f3_1 (by decide) rfl rfl ?_
  refine J_iload_n (i := 0) (q := 1) (pc1 := 4) dJ6_getChars_ba4f3_3 rfl rfl rfl ?_
  refine J_if_ge (tgt := 11) (pc1 := 7) dJ6_getChars_ba4f3_4 (by decide) (fun qq => ?_) rfl (fun qq => absurd (nI_pos' hv) qq)
  refine J_iconst (v := 0) (pc1 := 12) dJ6_getChars_ba4f3_11 (by decide) rfl ?_
  refine J_istore (i := 6) (lv1 := [(6, .int 0), (5, .int (nI p0)), (0, .int (nI v)), (1, .int (nI p0)), (2, .ref (ad 1 0))]) (pc1 := 14) dJ6_getChars_ba4f3_12 (by decide) rfl rfl ?_
  refine J_iload (i := 6) (q := 0) (pc1 := 16) dJ6_getChars_ba4f3_14 rfl rfl ?_
  refine J_if_ne (tgt := 22) (pc1 := 19) dJ6_getChars_ba4f3_16 (by decide) (fun qq => absurd qq (fun z => z rfl)) rfl (fun qq => ?_)
  refine J_iload_n (i := 0) (q := 2) (pc1 := 20) dJ6_getChars_ba4f3_19 rfl rfl rfl ?_
  refine J_ineg (pc1 := 21) dJ6_getChars_ba4f3_20 rfl ?_
  refine J_istore_n (i := 0) (lv1 := [(0, .int (-(nI v))), (6, .int 0), (5, .int (nI p0)), (1, .int (nI p0)), (2, .ref (ad 1 0))]) (pc1 := 22) dJ6_getChars_ba4f3_21 rfl (by decide) rfl rfl ?_
  refine J_sub [0, 1, 2, 4] rfl (gc_loop l D tc sa (n0 := n0) hm (v + 1) v p0 arr (by omega) (Nat.le_of_lt hv) (by omega) hpm (fun a2 h1 h2 h3 => ?_))
  refine J_iload (i := 6) (q := 0) (pc1 := 106) dJ6_getChars_ba4f3_104 rfl rfl ?_
  refine J_if_eq (tgt := 118) (pc1 := 109) dJ6_getChars_ba4f3_106 (by decide) (fun qq => ?_) rfl (fun qq => absurd (rfl) qq)
  refine J_iload (i := 5) (q := 1) (pc1 := 120) dJ6_getChars_ba4f3_118 rfl rfl ?_
  exact J_iretG hr hlk ⟨rfl, rfl, rfl, rfl, rfl, a2, rfl, fun j hj => h1 j (Or.inl hj), fun i hi => by
    have h9 := h2 (sb_dg v - 1 - i) (by omega)
    rw [show p0 - 1 - (sb_dg v - 1 - i) = n0 + i by omega] at h9
    exact ⟨by unfold sb_dec; omega, h9⟩, h3⟩ hI (Nat.le_refl _) (Nat.le_refl _) dJ6_getChars_ba4f3_120
theorem kJ6_getCharsN {ad : Nat → Nat → Nat} (hI : gI sE ad) {N n cp : Nat} {ml : Int32} {arr : Nat → Int32} {n0 p0 v : Nat} (hm : cp ≤ 65536) (h0 : 0 < v) (hv : v ≤ 2 ^ 31) (hp : p0 = n0 + (sb_dg v + 1)) (hpm : p0 ≤ cp) : gMetG l yJ6_getChars_ba4f3 cJ6_getChars_ba4f3 7 (some .int) ({ frames := 0, cells := 0, slots := 0, locals := 40 } : Room) D sE (sKd cp N) tc ad sRh sa [.int (-nI v), .int (nI p0), .ref (ad 1 0)] (sM n ml arr) (sPg n n0 (sb_dg v + 1) (sb_decN v) ml arr cp N ad) := by
  have hdv := sb_dg_in v
  refine gMetG_of hI ⟨by decide +kernel, Nat.le_of_ble_eq_true rfl⟩ (fun p e s m args below meth c sz hr hlk => ?_)
  show J p l e ({ frames := 0, cells := 0, slots := 0, locals := 40 } : Room) s m args below meth c cJ6_getChars_ba4f3 7 RJ6 D sE (sKd cp N) tc ad sRh sa (gA sE ad sz) s.heap 0 0 (MQ below (gQG D tc sE ad sz (sPg n n0 (sb_dg v + 1) (sb_decN v) ml arr cp N ad)) args s (0) (0) (gA sE ad sz)) (sM n ml arr) 0 [(0, .int (-nI v)), (1, .int (nI p0)), (2, .ref (ad 1 0))] []
  refine J_iload_n (i := 1) (q := 1) (pc1 := 1) dJ6_getChars_ba4f3_0 rfl rfl rfl ?_
  refine J_istore (i := 5) (lv1 := [(5, .int (nI p0)), (0, .int (-nI v)), (1, .int (nI p0)), (2, .ref (ad 1 0))]) (pc1 := 3) dJ6_getChars_ba4f3_1 (by decide) rfl rfl ?_
  refine J_iload_n (i := 0) (q := 1) (pc1 := 4) dJ6_getChars_ba4f3_3 rfl rfl rfl ?_
  refine J_if_ge (tgt := 11) (pc1 := 7) dJ6_getChars_ba4f3_4 (by decide) (fun qq => absurd qq (fun z => absurd (sb_nneg h0 hv) (Int32.not_lt.mpr z))) rfl (fun qq => ?_)
  refine J_iconst (v := 1) (pc1 := 8) dJ6_getChars_ba4f3_7 (by decide) rfl ?_
  refine J_goto (tgt := 12) dJ6_getChars_ba4f3_8 (by decide) ?_
  refine J_istore (i := 6) (lv1 := [(6, .int 1), (5, .int (nI p0)), (0, .int (-nI v)), (1, .int (nI p0)), (2, .ref (ad 1 0))]) (pc1 := 14) dJ6_getChars_ba4f3_12 (by decide) rfl rfl ?_
  refine J_iload (i := 6) (q := 0) (pc1 := 16) dJ6_getChars_ba4f3_14 rfl rfl ?_
  refine J_if_ne (tgt := 22) (pc1 := 19) dJ6_getChars_ba4f3_16 (by decide) (fun qq => ?_) rfl (fun qq => absurd qq (by decide))
  refine J_sub [2, 0, 1, 4] rfl (gc_loop l D tc sa (n0 := (n0 + 1)) hm (v + 1) v p0 arr (by omega) hv (by omega) hpm (fun a2 h1 h2 h3 => ?_))
  refine J_iload (i := 6) (q := 0) (pc1 := 106) dJ6_getChars_ba4f3_104 rfl rfl ?_
  refine J_if_eq (tgt := 118) (pc1 := 109) dJ6_getChars_ba4f3_106 (by decide) (fun qq => absurd qq (by decide)) rfl (fun qq => ?_)
  refine J_aload_n (i := 2) (q := 2) (pc1 := 110) dJ6_getChars_ba4f3_109 rfl rfl rfl ?_
  refine J_iinc (q := 1) (v := nI n0) (lv1 := [(5, .int (nI n0)), (6, .int 1), (2, .ref (ad 1 0))]) (pc1 := 113) dJ6_getChars_ba4f3_110 rfl (sb_m1 (Nat.succ_pos _)) (by decide) rfl rfl ?_
  refine J_iload (i := 5) (q := 0) (pc1 := 115) dJ6_getChars_ba4f3_113 rfl rfl ?_
  refine J_bipush (v := 45) (pc1 := 117) dJ6_getChars_ba4f3_115 (by decide) rfl ?_
  refine J_bast (ix := n0) (z := sb_b 45) (pc1 := 118) (nI_clamp (by omega)) rfl sE1 rfl (vp_in_nI (by omega) (by omega)) dJ6_getChars_ba4f3_117 rfl ?_
  rw [sM_arr]
  refine J_iload (i := 5) (q := 0) (pc1 := 120) dJ6_getChars_ba4f3_118 rfl rfl ?_
  exact J_iretG hr hlk ⟨rfl, rfl, rfl, rfl, rfl, upd a2 n0 (sb_b 45), rfl, fun j hj => by rw [pk_un (by omega)]; exact h1 j (Or.inl (by omega)), fun i hi => by
    unfold sb_decN
    by_cases e : i = 0
    · subst e
      rw [if_pos rfl, Nat.add_zero, pk_us]
      exact ⟨by decide, rfl⟩
    · rw [if_neg e, pk_un (by omega)]
      have h9 := h2 (sb_dg v - 1 - (i - 1)) (by omega)
      rw [show p0 - 1 - (sb_dg v - 1 - (i - 1)) = n0 + i by omega] at h9
      exact ⟨by unfold sb_dec; omega, h9⟩, fun hf => sb_fitU (h3 hf) (sb_fitB 45)⟩ hI (Nat.le_refl _) (Nat.le_refl _) dJ6_getChars_ba4f3_120
end SB6b
