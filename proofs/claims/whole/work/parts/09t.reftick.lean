/-! The reference: ticks. -/
/-- the reference's row and the message that is received differ -/
def gF2 (μ μ' : gM) : Prop := ∀ f i, ¬ ((f = 1 ∨ f = 4) ∧ i = 0) → μ' f i = μ f i
theorem gF2.rf {μ : gM} : gF2 μ μ := fun _ _ _ => rfl
theorem gF2.tr {μ μ1 μ2 : gM} (h : gF2 μ μ1) (k : gF2 μ1 μ2) : gF2 μ μ2 := fun f i q => (k f i q).trans (h f i q)
theorem gF1.two {μ μ' : gM} (h : gF1 μ μ') : gF2 μ μ' := fun f i q => h f i (fun z => q ⟨Or.inl z.1, z.2⟩)
section SqRef20
variable {μ : gM} {S : sqSt} {B n k i : Nat} {a1 a2 a3 a4 a5 : Int32} {N : sqN} {A A' : Nat → Int32} {m : sqMs} {h : sqH}
theorem RZ.up {B' : Nat} (R : RZ B A S) (hB : B ≤ B') (h : B' < 1000000000) : RZ B' A S := ⟨R.1, ⟨R.2.1.1, R.2.1.2.up hB⟩, h⟩
theorem zDlv_none : ∀ (k w : Nat) (S : sqSt), (∀ (i : Nat) (m : sqMs), w ≤ i → (zms S)[i]? = some m → zti S < mdu m) → zDlv k w S = S := by
  intro k
  induction k with
  | zero => intro w S _; rfl
  | succ k ih =>
    intro w S hh
    unfold zDlv
    cases hm : (zms S)[w]? with
    | none => rfl
    | some m =>
      have := hh w m (Nat.le_refl _) hm
      show (if mdu m ≤ zti S then zDlv k w (zRcv (zDel S w) m) else zDlv k (w + 1) S) = S
      rw [if_neg (by omega)]
      exact ih (w + 1) S (fun i m' hi hm' => hh i m' (by omega) hm')
theorem zDlv_skip : ∀ (d k w : Nat) (S : sqSt), (∀ (i : Nat) (m : sqMs), w ≤ i → i < w + d → (zms S)[i]? = some m → zti S < mdu m) → w + d ≤ (zms S).length → zDlv (k + d) w S = zDlv k (w + d) S := by
  intro d
  induction d with
  | zero => intro k w S _ _; rfl
  | succ d ih =>
    intro k w S hh hl
    have hw : w < (zms S).length := by omega
    have hm := List.getElem?_eq_getElem hw
    have := hh w _ (Nat.le_refl _) (by omega) hm
    have e : zDlv (k + (d + 1)) w S = zDlv (k + d) (w + 1) S := by
      show zDlv ((k + d) + 1) w S = _
      conv => lhs; unfold zDlv
      rw [hm]
      show (if mdu (zms S)[w] ≤ zti S then zDlv (k + d) w (zRcv (zDel S w) (zms S)[w]) else zDlv (k + d) (w + 1) S) = _
      rw [if_neg (by omega)]
    rw [e, ih k (w + 1) S (fun i m' hi hi' hm' => hh i m' (by omega) (by omega) hm') (by omega), show w + 1 + d = w + (d + 1) by omega]
theorem zDlv_due {k w : Nat} {S : sqSt} {m : sqMs} (hm : (zms S)[w]? = some m) (hd : mdu m ≤ zti S) : zDlv (k + 1) w S = zDlv k w (zRcv (zDel S w) m) := by
  conv => lhs; unfold zDlv
  rw [hm]
  show (if mdu m ≤ zti S then zDlv k w (zRcv (zDel S w) m) else zDlv k (w + 1) S) = _
  rw [if_pos hd]
/-- the message at a place is taken out and received -/
theorem mX7_one_ok (R : RZ B (μ 1 0) S) (hB : B + 2 < 800000000) (h1B : 1 ≤ B) {w : Nat} {x18 : Int32} (hx : x18.toInt = (w : Int)) (hm : (zms S)[w]? = some m) {Q : gM → Prop} {j : Int32 → gM → Option gM} (hj : ∀ μ' r, gF2 μ μ' → RZ (B + 2) (μ' 1 0) (zRcv (zDel S w) m) → ((r.toInt = -1 ∧ ∀ (i : Nat) (m' : sqMs), (zms (zRcv (zDel S w) m))[i]? = some m' → zti (zRcv (zDel S w) m) < mdu m') ∨ ∃ w' m1, r.toInt = ((w' : Nat) : Int) ∧ (zms (zRcv (zDel S w) m))[w']? = some m1 ∧ mdu m1 ≤ zti (zRcv (zDel S w) m) ∧ ∀ (i : Nat) (m' : sqMs), i < w' → (zms (zRcv (zDel S w) m))[i]? = some m' → zti (zRcv (zDel S w) m) < mdu m') → gOk (j r μ') Q) : gOk (gJon (fun (μ22 : gM) =>
            gBp (mX7_remove x18 μ22) fun μ25 =>
            gBp (mX7_receive μ25) fun μ27 =>
            gBp (mX7_firstDue μ27) fun r29 =>
            j r29 μ27) fun j23 =>
        gFx2 (fun rec32 (x30 : Int32) (μ31 : gM) =>
            if 25 ≤ x30 then
              j23 μ31
            else
              gBp (mX7_part x18 x30 μ31) fun r35 =>
              gChk (inb x30 25) <|
              gLet (α := gM) (w3 μ31 4 0 (x30.toNatClampNeg) r35) fun μ37 =>
              rec32 (x30 + 1) μ37) 1000000 0 μ) Q := by
  have hc := R.cnt
  have hw := (List.getElem?_eq_some_iff.mp hm).1
  obtain ⟨⟨h, I⟩, L⟩ := R.2.1
  have M := I.2.2.2 m (List.mem_of_getElem? hm)
  have LMm := L.2.2.2.2.1 m (List.mem_of_getElem? hm)
  refine gOk_jq (γ := gM) (fun μ22 => gF2 μ μ22 ∧ μ22 1 0 = μ 1 0 ∧ ∀ k, k < 25 → μ22 4 0 k = rM (μ 1 0) w k) (fun μ22 h22 => ?_) (fun j23 hj23 => ?_)
  · obtain ⟨f22, e22, g22⟩ := h22
    have R22 : RZ B (μ22 1 0) S := by rw [e22]; exact R
    have hG : RM (μ22 4 0) (zg S) m := (R.1.2.2 w m hm).cg (L.ml R.2.1 (List.mem_of_getElem? hm)) g22
    refine gOk_bp (mX7_remove_ok R22 hw hx) (fun μ25 h25 => ?_)
    have hG25 : RM (μ25 4 0) (zg (zDel S w)) m := by rw [h25.1 4 0 (by omega)]; exact hG
    refine gOk_bp (mX7_receive_ok h25.2 (I.del w) (L.del w) hB h1B hG25 M LMm) (fun μ27 h27 => ?_)
    refine gOk_bp (mX7_firstDue_ok h27.2) (fun r29 h29 => hj _ _ (f22.tr (h25.1.two.tr h27.1.two)) h27.2 h29)
  · refine gOk_fx2 (fun v (x30 : Int32) (μ31 : gM) => ∃ k, v = 25 - k ∧ k ≤ 25 ∧ x30.toInt = (k : Int) ∧ gF2 μ μ31 ∧ μ31 1 0 = μ 1 0 ∧ ∀ j, j < k → μ31 4 0 j = rM (μ 1 0) w j) ?_ 1000000 25 _ _ (by omega) ⟨0, rfl, Nat.zero_le _, rfl, gF2.rf, rfl, fun j hj => absurd hj (Nat.not_lt_zero j)⟩
    intro rec v x30 μ31 hI ih
    obtain ⟨k, hv, k1, k2, k3, k4, k5⟩ := hI
    subst hv
    refine gOk_le (x := 25) (a := 25) rfl k2 (fun q => hj23 _ ⟨k3, k4, fun j hj => k5 j (by omega)⟩) (fun q => ?_)
    refine gOk_be (mX7_part_ok μ31 hx k2 (by omega) (by omega)) (gOk_chk (ti_inb k2 (by omega)) (gOk_let (ih _ _ (25 - (k + 1)) (by omega) ⟨k + 1, rfl, by omega, by rw [ti_add k2 (y := 1) (b := 1) rfl (by omega) (by omega)]; omega, k3.tr (fun f i q => w3_ne (fun z => q ⟨Or.inr z.1, z.2⟩)), ?_, fun j hj => ?_⟩)))
    · rw [w3_ne (by omega)]; exact k4
    · rw [w3_row, ti_cl k2, k4]
      by_cases z : j = k
      · rw [z, upd_at]
      · rw [upd_ne _ _ z]; exact k5 j (by omega)
theorem zIL.tin (I : zIL B S) (hn : n < 5) (x : Int32) : zIL B (zN S n (nTi (zno S n) x)) := by
  obtain ⟨⟨h, I0⟩, L⟩ := I
  have a := I0.2.2.1 n hn
  exact ⟨⟨h, I0.node (sqNI.same a rfl rfl rfl ⟨Nat.le_refl _, a.2.2.2.1.1⟩ (Nat.le_refl _) (fun r => ⟨r, (a.2.2.2.2.1 r).2.2.2⟩) (fun r => ⟨r, (a.2.2.2.2.2 r).2.2.2⟩))⟩, L.node (L.2.2.2.1 n hn)⟩
theorem mX7_tickOnce_ok (R : RZ B (μ 1 0) S) (hB : B + 200 < 800000000) : gOk (mX7_tickOnce μ) (fun μ' => gF2 μ μ' ∧ RZ (B + 96) (μ' 1 0) (zTick1 S)) := by
  have hc := R.cnt
  have htB := R.2.1.2.1
  obtain ⟨g1, g2, g3, g4, g5, g6, g7⟩ := R.1.1
  have e1 := ti_add g1 (y := 1) (b := 1) rfl (by omega) (by omega)
  have R1 : RZ (B + 1) (w3 μ 1 0 0 ((μ 1 0 0) + 1) 1 0) (zTi S (zti S + 1)) := by
    refine ⟨?_, R.2.1.time, by omega⟩
    rw [w3_10]
    obtain ⟨m1, m2⟩ := R.1.mv R.2.1 (A' := upd (μ 1 0) 0 ((μ 1 0 0) + 1)) (fun k a b => upd_ne _ _ (by omega)) (fun k a b => upd_ne _ _ (by omega))
    refine ⟨⟨?_, ?_, ?_, ?_, fun i hi => ?_, fun k k1 k2 => ?_, fun t ht => ?_⟩, m1, m2⟩
    · rw [upd_at, e1]; show _ = ((zti S + 1 : Nat) : Int); omega
    · rw [upd_ne _ _ (by omega)]; exact g2
    · rw [upd_ne _ _ (by omega)]; exact g3
    · rw [upd_ne _ _ (by omega)]; exact g4
    · rw [upd_ne _ _ (by omega)]; exact g5 i hi
    · rw [upd_ne _ _ (by omega)]; exact g6 k k1 k2
    · rw [upd_ne _ _ (by omega)]; exact g7 t ht
  have F1 : gF1 μ (w3 μ 1 0 0 ((μ 1 0 0) + 1)) := gF1.w
  unfold mX7_tickOnce zTick1
  refine gOk_let ?_
  generalize w3 μ 1 0 0 ((μ 1 0 0) + 1) = μ1 at *
  have hde : 1 ≤ zde (zTi S (zti S + 1)) := R.2.1.2.2.1.1
  have hms : zms (zTi S (zti S + 1)) = zms S := rfl
  rw [← hms] at hc ⊢
  generalize zTi S (zti S + 1) = S1 at *
  refine gOk_bp (mX7_firstDue_ok R1) (fun r4 h4 => ?_)
  refine gOk_jq (γ := gM) (fun μ5 => gF2 μ μ5 ∧ RZ (B + 81) (μ5 1 0) (zDlv (zms S1).length 0 S1)) (fun μ5 h5 => ?_) (fun j6 hj6 => ?_)
  · obtain ⟨F5, R5⟩ := h5
    generalize zDlv (zms S1).length 0 S1 = S5 at *
    refine gOk_jon (gOk_fx2 (fun v (x9 : Int32) (μ10 : gM) => ∃ k, v = 5 - k ∧ k ≤ 5 ∧ x9.toInt = (k : Int) ∧ gF2 μ μ10 ∧ RZ (B + 81 + 3 * k) (μ10 1 0) ((List.range k).foldl zCnt S5)) ?_ 1000000 5 _ _ (by omega) ⟨0, rfl, Nat.zero_le _, rfl, F5, R5⟩)
    intro rec v x9 μ10 hI ih
    obtain ⟨k, hv, k1, k2, k3, k4⟩ := hI
    subst hv
    refine gOk_le (x := 5) (a := 5) rfl k2 (fun q => gOk_some ?_) (fun q => ?_)
    · have hk : k = 5 := by omega
      subst hk
      exact ⟨k3, k4⟩
    · have hk5 : k < 5 := by omega
      have hs : (List.range (k + 1)).foldl zCnt S5 = zCnt ((List.range k).foldl zCnt S5) k := by rw [List.range_succ, List.foldl_append]; rfl
      have e9 := ti_add k2 (y := 1) (b := 1) rfl (by omega) (by omega)
      have next : ∀ μ' : gM, gF2 μ μ' → RZ (B + 81 + 3 * (k + 1)) (μ' 1 0) (zCnt ((List.range k).foldl zCnt S5) k) → gOk (rec (x9 + 1) μ') (fun μ' => gF2 μ μ' ∧ RZ (B + 96) (μ' 1 0) ((List.range 5).foldl zCnt S5)) := fun μ' f r => ih _ _ (5 - (k + 1)) (by omega) ⟨k + 1, rfl, by omega, by rw [e9]; omega, f, by rw [hs]; exact r⟩
      generalize (List.range k).foldl zCnt S5 = Sk at *
      have r0 := (k4.1.2.1 k hk5).1.1
      refine gOk_be (mX7_of_ok μ10 k2 (k := 0) rfl hk5 (by omega)) ?_
      by_cases hu : nup (zno Sk k) = true
      · rw [hu, if_pos rfl] at r0
        refine gOk_eq r0 (y := 1) (b := 1) rfl (fun _ => ?_) (fun z => absurd rfl z)
        exact gOk_bp (mX7_goOn_ok k4 (by omega) hk5 k2 hu (fun x => k4.2.1.tin hk5 x)) (fun μ17 h17 => next _ (k3.tr h17.1.two) h17.2)
      · have hu' := hu
        rw [Bool.not_eq_true] at hu'
        rw [hu', if_neg (by decide)] at r0
        refine gOk_eq r0 (y := 1) (b := 1) rfl (fun z => absurd z (by decide)) (fun _ => next _ k3 ?_)
        unfold zCnt
        rw [if_neg (fun z => hu z.1)]
        exact k4.up (by omega) (by omega)
  · refine gOk_fx2 (fun v (x18 : Int32) (μ19 : gM) => ∃ k w S', v = k ∧ k ≤ 40 ∧ gF2 μ μ19 ∧ RZ (B + 81 - 2 * k) (μ19 1 0) S' ∧ zDlv k w S' = zDlv (zms S1).length 0 S1 ∧ zti S' = zti S1 ∧ 1 ≤ zde S' ∧ (∀ (i : Nat) (m : sqMs), i < w → (zms S')[i]? = some m → zti S' < mdu m) ∧ (∀ (i : Nat) (m : sqMs), w + k ≤ i → (zms S')[i]? = some m → zti S' < mdu m) ∧ ((x18.toInt = -1 ∧ ∀ (i : Nat) (m : sqMs), (zms S')[i]? = some m → zti S' < mdu m) ∨ ∃ w' m1, x18.toInt = ((w' : Nat) : Int) ∧ (zms S')[w']? = some m1 ∧ mdu m1 ≤ zti S' ∧ ∀ (i : Nat) (m' : sqMs), i < w' → (zms S')[i]? = some m' → zti S' < mdu m')) ?_ 1000000 (zms S1).length _ _ (by omega) ⟨(zms S1).length, 0, S1, rfl, hc, F1.two, R1.up (by omega) (by omega), rfl, rfl, hde, fun i m hi => absurd hi (Nat.not_lt_zero i), fun i m hi hm => ?_, h4⟩
    · intro rec v x18 μ19 hI ih
      obtain ⟨k, w, S', hv, k0, k1, k2, k3, k4, k5, k6, k7, k8⟩ := hI
      subst hv
      rcases k8 with ⟨x1, x2⟩ | ⟨w', m1, x1, x2, x3, x4⟩
      · refine gOk_lt x1 (y := 0) (b := 0) rfl (fun _ => hj6 _ ⟨k1, ?_⟩) (fun z => absurd z (by decide))
        rw [← k3, zDlv_none v w S' (fun i m _ hm => x2 i m hm)]
        exact k2.up (by omega) (by omega)
      · refine gOk_lt x1 (y := 0) (b := 0) rfl (fun z => absurd z (by omega)) (fun _ => ?_)
        have hw1 : w ≤ w' := Nat.le_of_not_lt (fun z => by have := k6 w' m1 z x2; omega)
        have hw2 : w' < w + v := Nat.lt_of_not_le (fun z => by have := k7 w' m1 z x2; omega)
        have hwl := (List.getElem?_eq_some_iff.mp x2).1
        have hd : zDlv v w S' = zDlv (v - (w' - w) - 1) w' (zRcv (zDel S' w') m1) := by
          have e1 : v = (v - (w' - w) - 1) + 1 + (w' - w) := by omega
          conv => lhs; rw [e1]
          rw [zDlv_skip (w' - w) _ w S' (fun i m hi hi' hm => x4 i m (by omega) hm) (by omega), show w + (w' - w) = w' by omega, zDlv_due x2 x3]
        refine mX7_one_ok k2 (by omega) (by omega) x1 x2 (fun μ27 r29 f27 r27 h29 => ?_)
        obtain ⟨n1, n2, l, n3, n4⟩ := zNew.rcv (S := zDel S' w') (m := m1)
        have hms' : zms (zDel S' w') = (zms S').eraseIdx w' := rfl
        have hget : ∀ (i : Nat) (m : sqMs), (zms (zRcv (zDel S' w') m1))[i]? = some m → (∃ j, (zms S')[j]? = some m ∧ (i < w' → j = i) ∧ (w' ≤ i → j = i + 1)) ∨ zti S' < mdu m := by
          intro i m hm
          rw [n3, hms'] at hm
          rcases Nat.lt_or_ge i ((zms S').eraseIdx w').length with q | q
          · rw [List.getElem?_append_left q, List.getElem?_eraseIdx] at hm
            by_cases z : i < w'
            · rw [if_pos z] at hm
              exact Or.inl ⟨i, hm, fun _ => rfl, fun y => by omega⟩
            · rw [if_neg z] at hm
              exact Or.inl ⟨i + 1, hm, fun y => by omega, fun _ => rfl⟩
          · rw [List.getElem?_append_right q] at hm
            have := n4 m (List.mem_of_getElem? hm)
            have hz : zti (zDel S' w') = zti S' := rfl
            have hz2 : zde (zDel S' w') = zde S' := rfl
            rw [hz, hz2] at this
            exact Or.inr (by omega)
        have nt : zti (zRcv (zDel S' w') m1) = zti S' := n1
        refine ih _ _ (v - (w' - w) - 1) (by omega) ⟨v - (w' - w) - 1, w', zRcv (zDel S' w') m1, rfl, by omega, k1.tr f27, r27.up (by omega) (by omega), ?_, nt.trans k4, ?_, fun i m hi hm => ?_, fun i m hi hm => ?_, h29⟩
        · rw [← hd]; exact k3
        · rw [n2]; exact k5
        · rw [nt]
          rcases hget i m hm with ⟨j, j1, j2, j3⟩ | q
          · rw [j2 hi] at j1
            exact x4 i m hi j1
          · exact q
        · rw [nt]
          rcases hget i m hm with ⟨j, j1, j2, j3⟩ | q
          · rw [j3 (by omega)] at j1
            exact k7 (i + 1) m (by omega) j1
          · exact q
    · have := (List.getElem?_eq_some_iff.mp hm).1
      omega
end SqRef20
