/-! The reference: winning and standing. -/
section SqRef11
variable {μ : gM} {S : sqSt} {B n k i : Nat} {a1 a2 a3 a4 a5 : Int32} {N : sqN} {A A' : Nat → Int32} {m : sqMs}
theorem zAdd_blank (S : sqSt) (n : Nat) : zmem (zAdd S n 3 0) (zno (zAdd S n 3 0) n) n = zmem S (zno S n) n := by
  rw [zAdd_at]
  unfold zmem zc
  show ((sqF (zg S) (nlg (zno S n) ++ [(ntm (zno S n), 3, 0)])).1.testBit n || (sqF (zg S) (nlg (zno S n) ++ [(ntm (zno S n), 3, 0)])).2.testBit n) = _
  rw [sqF_snoc]
  rfl
theorem zLead_mem (S : sqSt) (n : Nat) : zmem (zLead S n) (zno (zLead S n) n) n = zmem S (zno S n) n := by
  have e := (zLead_ti S n).2
  rw [zLead_at]
  unfold zmem zc
  rw [e]
  rfl
theorem zLead_lg (S : sqSt) (n : Nat) : nlg (zno (zLead S n) n) = nlg (zno S n) ∧ nbs (zno (zLead S n) n) = nbs (zno S n) ∧ nro (zno (zLead S n) n) = 2 ∧ ntm (zno (zLead S n) n) = ntm (zno S n) := by
  rw [zLead_at]; exact ⟨rfl, rfl, rfl, rfl⟩
def RAw (A A' : Nat → Int32) (S : sqSt) (n : Nat) : Prop := A' 13 = A 13 + 1 ∧ (∀ t, t < 100 → A' (16 + t) = if t = ntm (zno S n) then Int32.ofNat n else A (16 + t)) ∧ (∀ k, k ≠ 13 → (k < 16 ∨ 116 ≤ k) → k ≠ 116 + 100 * n + 1 → k ≠ 116 + 100 * n + 5 → A' k = A k) ∧ (rN A' n 1).toInt = 2 ∧ rN A' n 5 = 3
theorem mX7_win_ok (R : RZ B (μ 1 0) S) (hB : B + 2 < 1000000000) (hn : n < 5) (h1 : a1.toInt = (n : Int)) (hr : nro (zno S n) = 1) (hQ : sqQb (zc S (zno S n)) (nvs (zno S n)) = true) : gOk (mX7_win a1 μ) (fun μ' => gF1 μ μ' ∧ RZ (B + 2) (μ' 1 0) (zWin S n)) := by
  have hb := R.bd hn
  have L := R.2.1.2
  have hL := L.2.2.2.1 n hn
  have hll := hL.2.1
  have htm := hL.1
  have hR := R.1.2.1 n hn
  have hZ := R.2.1.lead hn hr hQ
  have hmem : zmem S (zno S n) n = true := hL.2.2.2.2.2.1 hr
  obtain ⟨l1, l2, l3, l4⟩ := zLead_lg S n
  unfold mX7_win
  refine gOk_be (mX7_set_ok μ h1 (k := 1) rfl hn (by omega)) (gOk_be (mX7_set_ok _ h1 (k := 5) rfl hn (by omega)) (gOk_be (mX7_tally_ok _ (s := 4) rfl (by omega)) (gOk_be (mX7_of_ok _ h1 (k := 2) rfl hn (by omega)) ?_)))
  generalize hμ6 : w3 (w3 (w3 μ 1 0 (116 + 100 * n + 1) 2) 1 0 (116 + 100 * n + 5) 3) 1 0 (9 + 4) (w3 (w3 μ 1 0 (116 + 100 * n + 1) 2) 1 0 (116 + 100 * n + 5) 3 1 0 (9 + 4) + 1) = μ6
  have F6 : gF1 μ μ6 := by rw [← hμ6]; exact gF1.w.tr (gF1.w.tr gF1.w)
  have hA6 : μ6 1 0 = upd (upd (upd (μ 1 0) (116 + 100 * n + 1) 2) (116 + 100 * n + 5) 3) 13 (μ 1 0 13 + 1) := by
    rw [← hμ6]
    simp only [w3_10]
    rw [upd_ne _ _ (show 9 + 4 ≠ 116 + 100 * n + 5 by omega), upd_ne _ _ (show 9 + 4 ≠ 116 + 100 * n + 1 by omega)]
  have p13 : μ6 1 0 13 = μ 1 0 13 + 1 := by rw [hA6, upd_at]
  have po : ∀ k, k ≠ 13 → k ≠ 116 + 100 * n + 1 → k ≠ 116 + 100 * n + 5 → μ6 1 0 k = μ 1 0 k := fun k k1 k2 k3 => by rw [hA6, upd_ne _ _ k1, upd_ne _ _ k3, upd_ne _ _ k2]
  have p1 : (rN (μ6 1 0) n 1).toInt = 2 := by
    show (μ6 1 0 (116 + 100 * n + 1)).toInt = 2
    rw [hA6, upd_ne _ _ (by omega), upd_ne _ _ (by omega), upd_at]; rfl
  have p5 : rN (μ6 1 0) n 5 = 3 := by
    show μ6 1 0 (116 + 100 * n + 5) = 3
    rw [hA6, upd_ne _ _ (by omega), upd_at]
  have p2 : (rN (μ6 1 0) n 2).toInt = ntm (zno S n) := by
    show (μ6 1 0 (116 + 100 * n + 2)).toInt = _
    rw [po _ (by omega) (by omega) (by omega)]; exact hR.1.2.1
  refine gOk_jp (γ := gM) (fun μ9 => gF1 μ μ9 ∧ RAw (μ 1 0) (μ9 1 0) S n) (fun μ' => gF1 μ μ' ∧ RZ (B + 2) (μ' 1 0) (zWin S n)) (fun μ9 h9 => ?_) (fun j10 hj10 => ?_)
  · obtain ⟨F9, w1, w2, w3', w4, w5⟩ := h9
    refine gOk_jp (γ := gM) (fun μ11 => gF1 μ μ11 ∧ RA (μ11 1 0) (zLead S n)) (fun μ' => gF1 μ μ' ∧ RZ (B + 2) (μ' 1 0) (zWin S n)) (fun μ11 h11 => ?_) (fun j12 hj12 => ?_)
    · have R11 : RZ B (μ11 1 0) (zLead S n) := ⟨h11.2, hZ, R.2.2⟩
      have r12 := (h11.2.2.1 n hn).1.2.2.2.2.2.2.2.2.2.1
      rw [l1, l2] at r12
      refine gOk_be (mX7_of_ok μ11 h1 (k := 12) rfl hn (by omega)) (gOk_jp (γ := gM) (fun μ15 => gF1 μ μ15 ∧ ∃ S15, zWin S n = zAll S15 n ∧ RZ (B + 2) (μ15 1 0) S15 ∧ nro (zno S15 n) = 2) (fun μ' => gF1 μ μ' ∧ RZ (B + 2) (μ' 1 0) (zWin S n)) (fun μ15 h15 => ?_) (fun j16 hj16 => ?_))
      · obtain ⟨F15, S15, e15, R15, r15⟩ := h15
        rw [e15]
        exact gOk_bp (mX7_sendToAll_ok R15 hn h1 r15) (fun μ18 h18 => gOk_some ⟨F15.tr h18.1, h18.2⟩)
      · refine gOk_le (x := 24) (a := 24) rfl r12 (fun q => ?_) (fun q => ?_)
        · refine hj16 _ ⟨h11.1, zLead S n, ?_, ⟨h11.2, ⟨hZ.1, hZ.2.up (by omega)⟩, hB⟩, l3⟩
          unfold zWin
          rw [if_neg (by omega)]
        · have hz3 : zIL (B + 1) (zAdd (zLead S n) n 3 0) := hZ.add hn l3 (by rw [l1, l2]; omega) (fun c hc => by cases hc) ⟨by rw [l4]; show ntm (zno S n) ≤ B + 1; omega, by show 3 ≤ 3; decide, fun r => absurd r (by show ¬ 3 = 1; decide), fun r => absurd r (by show ¬ 3 = 2; decide)⟩
          refine gOk_bp (mX7_append_ok R11 hn h1 l3 (by rw [l1, l2]; omega) (k := 3) rfl hz3 hB) (fun μ21 h21 => hj16 _ ⟨h11.1.tr h21.1, zSub (zLead S n) n 3 0, ?_, h21.2, ?_⟩)
          · unfold zWin zSub
            rw [if_pos (by omega)]
          · refine zCom_role ?_ ?_
            · rw [zAdd_blank, zLead_mem]; exact hmem
            · rw [zAdd_at]; exact l3
    · refine gOk_fx2 (fun m (x22 : Int32) (μ23 : gM) => ∃ j : Nat, m = 5 - j ∧ j ≤ 5 ∧ x22.toInt = (j : Int) ∧ gF1 μ μ23 ∧ (∀ k, ¬ (116 + 100 * n + 13 ≤ k ∧ k < 116 + 100 * n + 28) → μ23 1 0 k = μ9 1 0 k) ∧ ∀ u, u < j → (rN (μ23 1 0) n (13 + u)).toInt = (((nlg (zno S n)).length + 1 : Nat) : Int) ∧ (rN (μ23 1 0) n (18 + u)).toInt = 0 ∧ (rN (μ23 1 0) n (23 + u)).toInt = -1) ?_ 1000000 5 _ _ (by omega) ⟨0, rfl, by omega, rfl, F9, fun _ _ => rfl, fun u hu => absurd hu (Nat.not_lt_zero u)⟩
      intro rec m x22 μ23 hI ih
      obtain ⟨j, hm, j1, j2, j3, j4, j5⟩ := hI
      subst hm
      refine gOk_le (x := 5) (a := 5) rfl j2 (fun q => ?_) (fun q => ?_)
      · have hj : j = 5 := by omega
        subst hj
        refine hj12 _ ⟨j3, R.1.lead R.2.1 hn ?_ (fun t ht => ?_) (fun k k1 k2 k3 => ?_) ?_ ?_ j5⟩
        · rw [j4 13 (by omega)]; exact w1
        · rw [j4 (16 + t) (by omega)]; exact w2 t ht
        · rw [j4 k (by omega)]; exact w3' k k1 k2 (by omega) (by omega)
        · show (μ23 1 0 (116 + 100 * n + 1)).toInt = 2
          rw [j4 _ (by omega)]; exact w4
        · show μ23 1 0 (116 + 100 * n + 5) = 3
          rw [j4 _ (by omega)]; exact w5
      · have hj5 : j < 5 := by omega
        have h0 : RN0 (rN (μ23 1 0) n) (zg S) (zno S n) := RN0.cg (N := zno S n) hR.1 (fun k a b => by
          show μ23 1 0 (116 + 100 * n + k) = μ 1 0 (116 + 100 * n + k)
          rw [j4 _ (by omega)]; exact w3' _ (by omega) (by omega) (by omega) (by omega))
        have e13 : (13 + x22).toInt = ((13 + j : Nat) : Int) := by rw [ti_add (x := 13) (a := 13) rfl j2 (by omega) (by omega)]; omega
        have e18 : (18 + x22).toInt = ((18 + j : Nat) : Int) := by rw [ti_add (x := 18) (a := 18) rfl j2 (by omega) (by omega)]; omega
        have e23 : (23 + x22).toInt = ((23 + j : Nat) : Int) := by rw [ti_add (x := 23) (a := 23) rfl j2 (by omega) (by omega)]; omega
        have e1 : (x22 + 1).toInt = ((j + 1 : Nat) : Int) := by rw [ti_add j2 (y := 1) (b := 1) rfl (by omega) (by omega)]; omega
        refine gOk_bp (h0.lastx (by omega) hn h1) (fun r27 h27 => ?_)
        refine gOk_be (mX7_set_ok μ23 h1 e13 hn (by omega)) (gOk_be (mX7_set_ok _ h1 e18 hn (by omega)) (gOk_be (mX7_set_ok _ h1 e23 hn (by omega)) (ih _ _ (5 - (j + 1)) (by omega) ⟨j + 1, rfl, by omega, e1, j3.tr (gF1.w.tr (gF1.w.tr gF1.w)), fun k hk => ?_, fun u hu => ?_⟩)))
        · simp only [w3_10]
          rw [upd_ne _ _ (by omega), upd_ne _ _ (by omega), upd_ne _ _ (by omega)]
          exact j4 k hk
        · simp only [w3_10]
          rw [rN_upd, rN_upd, rN_upd]
          by_cases z : u = j
          · rw [z, upd_ne _ _ (show 13 + j ≠ 23 + j by omega), upd_ne _ _ (show 13 + j ≠ 18 + j by omega), upd_at, upd_ne _ _ (show 18 + j ≠ 23 + j by omega), upd_at, upd_at]
            refine ⟨?_, rfl, ti_m1⟩
            rw [ti_add h27 (y := 1) (b := 1) rfl (by omega) (by omega)]; omega
          · rw [upd_ne _ _ (show 13 + u ≠ 23 + j by omega), upd_ne _ _ (show 13 + u ≠ 18 + j by omega), upd_ne _ _ (show 13 + u ≠ 13 + j by omega), upd_ne _ _ (show 18 + u ≠ 23 + j by omega), upd_ne _ _ (show 18 + u ≠ 18 + j by omega), upd_ne _ _ (show 18 + u ≠ 13 + j by omega), upd_ne _ _ (show 23 + u ≠ 23 + j by omega), upd_ne _ _ (show 23 + u ≠ 18 + j by omega), upd_ne _ _ (show 23 + u ≠ 13 + j by omega)]
            exact j5 u (by omega)
  · refine gOk_le (x := 100) (a := 100) rfl p2 (fun q => ?_) (fun q => ?_)
    · refine hj10 _ ⟨F6, p13, fun t ht => ?_, fun k k1 _ k2 k3 => po k k1 k2 k3, p1, p5⟩
      rw [if_neg (by omega), po _ (by omega) (by omega) (by omega)]
    · have e16 : (16 + rN (μ6 1 0) n 2).toInt = ((16 + ntm (zno S n) : Nat) : Int) := by rw [ti_add (x := 16) (a := 16) rfl p2 (by omega) (by omega)]; omega
      refine gOk_be (mX7_of_ok μ6 h1 (k := 2) rfl hn (by omega)) (gOk_chk (ti_inb e16 (by omega)) (gOk_let (hj10 _ ⟨F6.tr gF1.w, ?_, fun t ht => ?_, fun k k1 k4 k2 k3 => ?_, ?_, ?_⟩)))
      · rw [ti_cl e16, w3_10, upd_ne _ _ (by omega)]; exact p13
      · rw [ti_cl e16, w3_10]
        by_cases z : t = ntm (zno S n)
        · rw [if_pos z, z, upd_at]; exact ti_of h1
        · rw [if_neg z, upd_ne _ _ (by omega), po _ (by omega) (by omega) (by omega)]
      · rw [ti_cl e16, w3_10, upd_ne _ _ (by omega)]; exact po k k1 k2 k3
      · rw [ti_cl e16, w3_10]
        show (upd (μ6 1 0) (16 + ntm (zno S n)) a1 (116 + 100 * n + 1)).toInt = 2
        rw [upd_ne _ _ (by omega)]; exact p1
      · rw [ti_cl e16, w3_10]
        show upd (μ6 1 0) (16 + ntm (zno S n)) a1 (116 + 100 * n + 5) = 3
        rw [upd_ne _ _ (by omega)]; exact p5
end SqRef11
