/-! The reference: replies and answers that are received. -/
section SqRef14
variable {μ : gM} {S : sqSt} {B n k i : Nat} {a1 a2 a3 a4 a5 : Int32} {N : sqN} {A A' : Nat → Int32} {m : sqMs}
theorem RN.vs {r : Nat → Int32} {g : Nat} (h : RN r g N) {W : Nat → Bool} {x : Int32} (hx : x.toInt = (sqMk W : Int)) : RN (upd r 6 x) g (nVs N W) := by
  refine ⟨RN0.cg (N := N) h.1 (fun k a b => upd_ne _ _ (by omega)), ?_⟩
  obtain ⟨h1, h2, h3, h4⟩ := h.2
  refine ⟨by rw [upd_ne _ _ (by omega)]; exact h1, by rw [upd_ne _ _ (by omega)]; exact h2, fun q => by rw [upd_at]; exact hx, fun q u hu => ?_⟩
  rw [upd_ne _ _ (by omega), upd_ne _ _ (by omega), upd_ne _ _ (by omega)]
  exact h4 q u hu
theorem mX7_receiveReply_ok (R : RZ B (μ 1 0) S) (hB : B + 2 < 1000000000) (hn : n < 5) (h1 : a1.toInt = (n : Int)) (hG : RM (μ 4 0) (zg S) m) (hs : mse m < 5) (hZ : nro (zno S n) = 1 → mtm m = ntm (zno S n) → mfl m = 1 → zIL B (zVs S n m)) : gOk (mX7_receiveReply a1 μ) (fun μ' => gF1 μ μ' ∧ RA (μ' 1 0) (zRep S n m)) := by
  have hR := R.1.2.1 n hn
  have r2 := hR.1.2.1
  have r1 := hR.2.1
  unfold mX7_receiveReply zRep
  refine gOk_be (mX7_of_ok μ h1 (k := 1) rfl hn (by omega)) (gOk_eq r1 (y := 1) (b := 1) rfl (fun q1 => ?_) (fun q1 => ?_))
  · refine gOk_be (mX7_of_ok μ h1 (k := 2) rfl hn (by omega)) (gOk_eq hG.2.2.2.1 r2 (fun q2 => ?_) (fun q2 => ?_))
    · refine gOk_eq hG.2.2.2.2.2.2.1 (y := 1) (b := 1) rfl (fun q3 => ?_) (fun q3 => ?_)
      · have hro : nro (zno S n) = 1 := by omega
        rw [if_pos ⟨hro, by omega, by omega⟩]
        have r6 := hR.2.2.2.1 hro
        have hZ' := hZ hro (by omega) (by omega)
        have hW : (rN (μ 1 0) n 6 ||| (1 <<< ((μ 4 0 1) &&& 31))).toInt = (sqMk (fun u => nvs (zno S n) u || u == mse m) : Int) := by
          have hp : (2 : Nat) ^ mse m < 32 := Nat.lt_of_lt_of_le (Nat.pow_lt_pow_right (by omega) hs) (by decide)
          have h32 := sqMk_lt (fun u => nvs (zno S n) u || u == mse m)
          rw [ti_of r6, ti_of hG.2.1, i32_one ⟨mse m, hs⟩, i32_or ⟨sqMk (nvs (zno S n)), sqMk_lt _⟩ ⟨2 ^ mse m, hp⟩, sqMk_or _ _ hs]
          exact ti_nat (by omega)
        refine gOk_be (mX7_of_ok μ h1 (k := 6) rfl hn (by omega)) (gOk_be (mX7_set_ok μ h1 (k := 6) rfl hn (by omega)) (gOk_be (mX7_of_ok _ h1 (k := 6) rfl hn (by omega)) ?_))
        have R2 : RZ B (w3 μ 1 0 (116 + 100 * n + 6) (rN (μ 1 0) n 6 ||| (1 <<< ((μ 4 0 1) &&& 31))) 1 0) (zVs S n m) := by
          refine ⟨?_, hZ', R.2.2⟩
          rw [w3_10]
          exact R.1.nd1 R.2.1 hn (by omega) (hR.vs hW)
        have e6 : rN (w3 μ 1 0 (116 + 100 * n + 6) (rN (μ 1 0) n 6 ||| (1 <<< ((μ 4 0 1) &&& 31))) 1 0) n 6 = rN (μ 1 0) n 6 ||| (1 <<< ((μ 4 0 1) &&& 31)) := by rw [w3_10, rN_upd, upd_at]
        rw [e6]
        have eV : zno (zVs S n m) n = nVs (zno S n) (fun u => nvs (zno S n) u || u == mse m) := by unfold zVs; exact zN_at _ _ _
        have hzc : zc (zVs S n m) (zno (zVs S n m) n) = zc S (zno S n) := by rw [eV]; rfl
        refine gOk_bp (mX7_isQuorum_ok R2 hn h1 hW) (fun r15 h15 => ?_)
        rw [hzc] at h15
        by_cases w : sqQb (zc S (zno S n)) (fun u => nvs (zno S n) u || u == mse m) = true
        · rw [if_pos w] at h15 ⊢
          refine gOk_if (fun z => absurd (h15.symm.trans z) (by decide)) (fun _ => ?_)
          exact gOk_bp (mX7_win_ok R2 hB hn h1 (by rw [eV]; exact hro) (by rw [hzc, eV]; exact w)) (fun μ18 h18 => gOk_some ⟨gF1.w.tr h18.1, h18.2.1⟩)
        · rw [if_neg w] at h15 ⊢
          exact gOk_if (fun _ => gOk_some ⟨gF1.w, R2.1⟩) (fun z => absurd h15 z)
      · rw [if_neg (fun z => q3 (by omega))]
        exact gOk_some ⟨gF1.rf, R.1⟩
    · rw [if_neg (fun z => q2 (by omega))]
      exact gOk_some ⟨gF1.rf, R.1⟩
  · rw [if_neg (fun z => q1 (by omega))]
    exact gOk_some ⟨gF1.rf, R.1⟩
theorem RN.an {r r' : Nat → Int32} {g : Nat} (h : RN r g N) (hr : nro N = 2) {s c : Nat} (hs : s < 5) {e : Int} (e0 : ∀ k, k ≠ 13 + s → k ≠ 18 + s → k ≠ 23 + s → r' k = r k) (e1 : (r' (13 + s)).toInt = ((c + 1 : Nat) : Int)) (e2 : (r' (18 + s)).toInt = (c : Int)) (e3 : (r' (23 + s)).toInt = e) : RN r' g (nAn N s c e) := by
  refine ⟨RN0.cg (N := N) h.1 (fun k a b => e0 k (by omega) (by omega) (by omega)), ?_⟩
  obtain ⟨h1, h2, h3, h4⟩ := h.2
  refine ⟨by rw [e0 1 (by omega) (by omega) (by omega)]; exact h1, by rw [e0 5 (by omega) (by omega) (by omega)]; exact h2, fun q => ?_, fun q u hu => ?_⟩
  · have q' : nro N = 1 := q
    rw [hr] at q'; cases q'
  · show (r' (13 + u)).toInt = sqU1 (nnx N) s (c + 1) u ∧ (r' (18 + u)).toInt = sqU1 (nmt N) s c u ∧ (r' (23 + u)).toInt = sqU1 (nec N) s e u
    by_cases z : u = s
    · rw [z, sqU1_at, sqU1_at, sqU1_at]; exact ⟨e1, e2, e3⟩
    · rw [sqU1_ne z, sqU1_ne z, sqU1_ne z, e0 (13 + u) (by omega) (by omega) (by omega), e0 (18 + u) (by omega) (by omega) (by omega), e0 (23 + u) (by omega) (by omega) (by omega)]
      exact h4 q u hu
theorem RN.nx {r : Nat → Int32} {g : Nat} (h : RN r g N) {s c : Nat} (hs : s < 5) {x : Int32} (hx : x.toInt = (c : Int)) : RN (upd r (13 + s) x) g (nNx N s c) := by
  refine ⟨RN0.cg (N := N) h.1 (fun k a b => upd_ne _ _ (by omega)), ?_⟩
  obtain ⟨h1, h2, h3, h4⟩ := h.2
  refine ⟨by rw [upd_ne _ _ (by omega)]; exact h1, by rw [upd_ne _ _ (by omega)]; exact h2, fun q => by rw [upd_ne _ _ (by omega)]; exact h3 q, fun q u hu => ?_⟩
  show (upd r (13 + s) x (13 + u)).toInt = sqU1 (nnx N) s c u ∧ _
  obtain ⟨u1, u2, u3⟩ := h4 q u hu
  rw [upd_ne _ _ (show 18 + u ≠ 13 + s by omega), upd_ne _ _ (show 23 + u ≠ 13 + s by omega)]
  refine ⟨?_, u2, u3⟩
  by_cases z : u = s
  · rw [z, sqU1_at, upd_at]; exact hx
  · rw [sqU1_ne z, upd_ne _ _ (by omega)]; exact u1
theorem mX7_receiveAnswer_ok (R : RZ B (μ 1 0) S) (hB : B + 2 < 1000000000) (hn : n < 5) (h1 : a1.toInt = (n : Int)) (hG : RM (μ 4 0) (zg S) m) (hs : mse m < 5) (hL : mix m ≤ B) (hZ1 : nro (zno S n) = 2 → mtm m = ntm (zno S n) → mfl m = 1 → zIL B (zN S n (nAn (zno S n) (mse m) (max (nmt (zno S n) (mse m)) (mix m)) (max (nec (zno S n) (mse m)) (mto m : Int))))) (hZ2 : nro (zno S n) = 2 → zIL B (zN S n (nNx (zno S n) (mse m) (max 1 (min (nnx (zno S n) (mse m) - 1) (mix m + 1)))))) : gOk (mX7_receiveAnswer a1 μ) (fun μ' => gF1 μ μ' ∧ RA (μ' 1 0) (zAns S n m)) := by
  have hR := R.1.2.1 n hn
  have r2 := hR.1.2.1
  have r1 := hR.2.1
  have h45 := hG.2.2.2.2.2.1
  have h47 := hG.2.2.2.2.2.2.2.1
  have hse := hG.2.1
  have hll := (R.2.1.2.2.2.2.1 n hn).2.1
  have e13 : (13 + μ 4 0 1).toInt = ((13 + mse m : Nat) : Int) := by rw [ti_add (x := 13) (a := 13) rfl hse (by omega) (by omega)]; omega
  have e18 : (18 + μ 4 0 1).toInt = ((18 + mse m : Nat) : Int) := by rw [ti_add (x := 18) (a := 18) rfl hse (by omega) (by omega)]; omega
  have e23 : (23 + μ 4 0 1).toInt = ((23 + mse m : Nat) : Int) := by rw [ti_add (x := 23) (a := 23) rfl hse (by omega) (by omega)]; omega
  unfold mX7_receiveAnswer zAns
  refine gOk_let (gOk_be (mX7_of_ok μ h1 (k := 1) rfl hn (by omega)) (gOk_eq r1 (y := 2) (b := 2) rfl (fun q1 => ?_) (fun q1 => ?_)))
  · refine gOk_be (mX7_of_ok μ h1 (k := 2) rfl hn (by omega)) (gOk_eq hG.2.2.2.1 r2 (fun q2 => ?_) (fun q2 => ?_))
    · have hro : nro (zno S n) = 2 := by omega
      rw [if_pos (show nro (zno S n) = 2 ∧ mtm m = ntm (zno S n) from ⟨hro, by omega⟩)]
      obtain ⟨u1, u2, u3⟩ := hR.2.2.2.2 hro (mse m) hs
      have hnx := R.2.1.nx hn hs hro
      refine gOk_eq hG.2.2.2.2.2.2.1 (y := 1) (b := 1) rfl (fun q3 => ?_) (fun q3 => ?_)
      · rw [if_pos (show mfl m = 1 by omega)]
        have hZ := hZ1 hro (by omega) (by omega)
        generalize hc : max (nmt (zno S n) (mse m)) (mix m) = c at *
        generalize he : max (nec (zno S n) (mse m)) (mto m : Int) = e at *
        refine gOk_be (mX7_of_ok μ h1 e18 hn (by omega)) (gOk_lee (fun x32 h32 => ?_))
        have h32' : x32.toInt = (c : Int) := by
          rw [h32]
          by_cases w : μ 4 0 5 ≤ rN (μ 1 0) n (18 + mse m)
          · rw [if_pos w, u2]
            have := Int32.le_iff_toInt_le.mp w
            rw [h45, u2] at this
            omega
          · rw [if_neg w, h45]
            have := Int.not_le.mp (fun y => w (Int32.le_iff_toInt_le.mpr y))
            rw [h45, u2] at this
            omega
        have hcB : (c : Int) < 1000000001 := by
          have hLI := hZ.2.2.2.2.1 n hn
          obtain ⟨h0, I0⟩ := hZ.1
          have hro2 : nro (zno (zN S n (nAn (zno S n) (mse m) c e)) n) = 2 := by rw [zN_at]; exact hro
          have := (hZ.nx hn hs hro2).2
          rw [zN_at] at this
          have this' : sqU1 (nnx (zno S n)) (mse m) (c + 1) (mse m) ≤ (nlg (zno S n)).length + 1 := this
          rw [sqU1_at] at this'
          omega
        have e33 : (x32 + 1).toInt = ((c + 1 : Nat) : Int) := by rw [ti_add h32' (y := 1) (b := 1) rfl (by omega) (by omega)]; omega
        refine gOk_be (mX7_set_ok μ h1 e18 hn (by omega)) (gOk_be (mX7_set_ok _ h1 e13 hn (by omega)) (gOk_be (mX7_of_ok _ h1 e23 hn (by omega)) ?_))
        have e4 : w3 (w3 μ 1 0 (116 + 100 * n + (18 + mse m)) x32) 1 0 (116 + 100 * n + (13 + mse m)) (x32 + 1) 4 0 = μ 4 0 := by
          rw [w3_ne (by omega), w3_ne (by omega)]
        rw [e4]
        have er : rN (w3 (w3 μ 1 0 (116 + 100 * n + (18 + mse m)) x32) 1 0 (116 + 100 * n + (13 + mse m)) (x32 + 1) 1 0) n (23 + mse m) = rN (μ 1 0) n (23 + mse m) := by
          simp only [w3_10]
          rw [rN_upd, rN_upd, upd_ne _ _ (by omega), upd_ne _ _ (by omega)]
        rw [er]
        refine gOk_jp (γ := gM) (fun μ42 => gF1 μ μ42 ∧ RZ B (μ42 1 0) (zN S n (nAn (zno S n) (mse m) c e))) (fun μ' => gF1 μ μ' ∧ RA (μ' 1 0) (zCom (zN S n (nAn (zno S n) (mse m) c e)) n)) (fun μ42 h42 => ?_) (fun j43 hj43 => ?_)
        · exact gOk_bp (mX7_commit_ok h42.2 hn h1 (by rw [zN_at]; exact hro)) (fun μ45 h45' => gOk_some ⟨h42.1.tr h45'.1, h45'.2⟩)
        · refine gOk_le h47 u3 (fun w => hj43 _ ⟨gF1.w.tr gF1.w, ?_, hZ, R.2.2⟩) (fun w => ?_)
          · simp only [w3_10]
            refine R.1.nd R.2.1 hn (fun k hk => by rw [upd_ne _ _ (by omega), upd_ne _ _ (by omega)]) ?_
            rw [rN_upd, rN_upd]
            refine hR.an hro hs (fun k k1 k2 k3 => by rw [upd_ne _ _ k1, upd_ne _ _ k2]) (by rw [upd_at]; exact e33) (by rw [upd_ne _ _ (by omega), upd_at]; exact h32') ?_
            rw [upd_ne _ _ (by omega), upd_ne _ _ (by omega), u3]
            omega
          · refine gOk_be (mX7_set_ok _ h1 e23 hn (by omega)) (hj43 _ ⟨gF1.w.tr (gF1.w.tr gF1.w), ?_, hZ, R.2.2⟩)
            simp only [w3_10]
            refine R.1.nd R.2.1 hn (fun k hk => by rw [upd_ne _ _ (by omega), upd_ne _ _ (by omega), upd_ne _ _ (by omega)]) ?_
            rw [rN_upd, rN_upd, rN_upd]
            refine hR.an hro hs (fun k k1 k2 k3 => by rw [upd_ne _ _ k3, upd_ne _ _ k1, upd_ne _ _ k2]) (by rw [upd_ne _ _ (by omega), upd_at]; exact e33) (by rw [upd_ne _ _ (by omega), upd_ne _ _ (by omega), upd_at]; exact h32') ?_
            rw [upd_at, h47]
            omega
      · rw [if_neg (show ¬ mfl m = 1 by omega)]
        have hZ := hZ2 hro
        generalize hc : max 1 (min (nnx (zno S n) (mse m) - 1) (mix m + 1)) = c at *
        have ex14 := ti_sub u1 (y := 1) (b := 1) rfl (by omega) (by omega)
        have ex5 := ti_add h45 (y := 1) (b := 1) rfl (by omega) (by omega)
        refine gOk_be (mX7_of_ok μ h1 e13 hn (by omega)) (gOk_let (gOk_lee (fun x18 h18 => gOk_lee (fun x22 h22 => ?_))))
        have h18' : x18.toInt = ((min (nnx (zno S n) (mse m) - 1) (mix m + 1) : Nat) : Int) := by
          rw [h18]
          by_cases w : (rN (μ 1 0) n (13 + mse m) - 1) ≤ ((μ 4 0 5) + 1)
          · have := Int32.le_iff_toInt_le.mp w
            rw [ex14, ex5] at this
            rw [if_pos w, ex14]
            omega
          · have := Int.not_le.mp (fun y => w (Int32.le_iff_toInt_le.mpr y))
            rw [ex14, ex5] at this
            rw [if_neg w, ex5]
            omega
        have h22' : x22.toInt = (c : Int) := by
          have e1 : (1 : Int32).toInt = 1 := rfl
          rw [h22]
          by_cases w : 1 ≤ x18
          · have := Int32.le_iff_toInt_le.mp w
            rw [h18', e1] at this
            rw [if_pos w, h18']
            omega
          · have := Int.not_le.mp (fun y => w (Int32.le_iff_toInt_le.mpr y))
            rw [h18', e1] at this
            rw [if_neg w, e1]
            omega
        refine gOk_be (mX7_set_ok μ h1 e13 hn (by omega)) ?_
        have R2 : RZ B (w3 μ 1 0 (116 + 100 * n + (13 + mse m)) x22 1 0) (zN S n (nNx (zno S n) (mse m) c)) := by
          refine ⟨?_, hZ, R.2.2⟩
          rw [w3_10]
          exact R.1.nd1 R.2.1 hn (by omega) (hR.nx hs h22')
        have hro2 : nro (zno (zN S n (nNx (zno S n) (mse m) c)) n) = 2 := by rw [zN_at]; exact hro
        exact gOk_bp (mX7_sendTo_ok R2 hn hs h1 hse hro2 (hZ.nx hn hs hro2).2) (fun μ29 h29 => gOk_some ⟨gF1.w.tr h29.1, h29.2⟩)
    · rw [if_neg (show ¬ (nro (zno S n) = 2 ∧ mtm m = ntm (zno S n)) from fun z => q2 (by omega))]
      exact gOk_some ⟨gF1.rf, R.1⟩
  · rw [if_neg (show ¬ (nro (zno S n) = 2 ∧ mtm m = ntm (zno S n)) from fun z => q1 (by omega))]
    exact gOk_some ⟨gF1.rf, R.1⟩
end SqRef14
