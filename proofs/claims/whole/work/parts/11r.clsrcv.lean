/-! The class: answers that come in. -/
section SqClu
variable {μ μ' μ1 : gM} {n g b k i nc B t t1 s q kk : Nat} {l : List sqE} {a1 a2 a3 a4 : Int32} {e : sqE} {m : sqMs} {S S' : sqSt} {N : sqN}
theorem RY.mt (h : RY B μ q S) (hn : n < 5) (hr : nro (zno S n) = 2) {u : Nat} (hu : u < 5) : nmt (zno S n) u ≤ (nlg (zno S n)).length := by
  obtain ⟨⟨hh, I0⟩, L⟩ := h.2.1
  obtain ⟨l1, l2, l3, l4⟩ := (I0.2.2.1 n hn).2.2.2.2.1 hr
  have h1 := (l4 u hu).1
  have hle := (I0.2.1.2.2.2.2.2.1 (ntm (zno S n)) u).1
  rw [← l2] at hle
  omega
theorem mX0_takeAnswer_ok (h : RY B μ q S) (hq : q < nc) (hnc : nc ≤ 2) (hn : n < 5) (hm : BM μ t g m) (hk : mki m = 3) (hse : mse m < 5) (hf : mfl m ≤ 1) (hix : mix m < 900000000) : gOk (mX0_takeAnswer nc q (5 * q + n) t μ) (fun p => gFr (rbP q) μ p.2 ∧ (nro (zno S n) = 2 ∧ mtm m = ntm (zno S n) → (mfl m = 1 → p.1 = 2 ∧ RB p.2 q (zN S n (nAn (zno S n) (mse m) (max (nmt (zno S n) (mse m)) (mix m)) (max (nec (zno S n) (mse m)) (mto m : Int))))) ∧ (mfl m ≠ 1 → p.1 = 0 ∧ RB p.2 q (zAns S n m))) ∧ (¬ (nro (zno S n) = 2 ∧ mtm m = ntm (zno S n)) → p = (0, μ))) := by
  have hb := h.1.2.1 n hn
  have hlen := h.len hn
  have c12 := hm.2.2.2.2.2.2.2.2.2.1 (Or.inr hk)
  unfold mX0_takeAnswer
  refine gOk_lee (fun x1 hx => ?_)
  have e1 : x1.toInt = (mse m : Int) := by rw [hx]; exact hm.2.1
  refine gOk_eq hb.2.1 (y := 2) (b := 2) rfl (fun q1 => ?_) (fun q1 => gOk_some ⟨gFr.rf, fun z => absurd z.1 (by omega), fun _ => rfl⟩)
  refine gOk_eq hm.2.2.2.1 hb.1.2.2.1 (fun q2 => ?_) (fun q2 => gOk_some ⟨gFr.rf, fun z => absurd z.2 (by omega), fun _ => rfl⟩)
  have hr : nro (zno S n) = 2 := by omega
  have hC : nro (zno S n) = 2 ∧ mtm m = ntm (zno S n) := ⟨hr, by omega⟩
  have hz := h.2.1.nx hn hse hr
  obtain ⟨u13, u14, u15⟩ := hb.2.2.2.2 hr (mse m) hse
  have p5 := ti_inb (n := 5) e1 hse
  simp only [ti_cl e1]
  refine gOk_eq c12 (y := 0) (b := 0) rfl (fun q3 => ?_) (fun q3 => ?_)
  · have hf0 : mfl m ≠ 1 := by omega
    refine gOk_chk p5 (gOk_lee (fun x29 h29 => gOk_lee (fun x33 h33 => gOk_chk p5 (gOk_lee (fun μ38 h38 => ?_)))))
    have ea : ((μ 19 t 10) + 1).toInt = (mix m : Int) + 1 := ti_add hm.2.2.2.2.2.2.1 (y := 1) (b := 1) rfl (by omega) (by omega)
    have eb : ((μ 13 (5 * q + n) (mse m)) - 1).toInt = (nnx (zno S n) (mse m) : Int) - 1 := ti_sub u13 (y := 1) (b := 1) rfl (by omega) (by omega)
    have e29 : x29.toInt = ((min (nnx (zno S n) (mse m) - 1) (mix m + 1) : Nat) : Int) := by
      rw [h29]
      by_cases z : ((μ 19 t 10) + 1) < ((μ 13 (5 * q + n) (mse m)) - 1)
      · rw [if_pos z, ea]
        have := Int32.lt_iff_toInt_lt.mp z
        rw [ea, eb] at this
        omega
      · rw [if_neg z, eb]
        have : ¬ _ := fun w => z (Int32.lt_iff_toInt_lt.mpr w)
        rw [ea, eb] at this
        omega
    have e33 : x33.toInt = ((max 1 (min (nnx (zno S n) (mse m) - 1) (mix m + 1)) : Nat) : Int) := by
      rw [h33]
      have one : (1 : Int32).toInt = 1 := rfl
      by_cases z : 1 < x29
      · rw [if_pos z, e29]
        have := Int32.lt_iff_toInt_lt.mp z
        rw [one, e29] at this
        omega
      · rw [if_neg z, one]
        have : ¬ _ := fun w => z (Int32.lt_iff_toInt_lt.mpr w)
        rw [one, e29] at this
        omega
    have F : gFr (bnP (5 * q + n)) μ μ38 := by rw [h38]; exact gFr.w ⟨rfl, by omega⟩
    have b38 : BN μ38 (5 * q + n) n (zg S) (nNx (zno S n) (mse m) (max 1 (min (nnx (zno S n) (mse m) - 1) (mix m + 1)))) := by
      rw [h38]
      refine ⟨hb.1.cg (fun f j z => w3_o _ _ (by omega)), by rw [w3_o _ _ (by omega)]; exact hb.2.1, by rw [w3_o _ _ (by omega)]; exact hb.2.2.1, fun r => absurd (hr.symm.trans r) (by decide), fun _ u hu => ?_⟩
      obtain ⟨v13, v14, v15⟩ := hb.2.2.2.2 hr u hu
      refine ⟨?_, by rw [w3_o _ _ (by omega)]; exact v14, by rw [w3_o _ _ (by omega)]; exact v15⟩
      show _ = ((sqU1 (nnx (zno S n)) (mse m) _ u : Nat) : Int)
      by_cases z : u = mse m
      · subst z; rw [w3_at, sqU1_at]; exact e33
      · rw [w3_o _ _ (by omega), sqU1_ne z]; exact v13
    have r38 := h.1.node hn F b38
    have ez := zN_at S n (nNx (zno S n) (mse m) (max 1 (min (nnx (zno S n) (mse m) - 1) (mix m + 1))))
    refine gOk_bp (mX0_sendTo_ok r38 hq hnc hn hse (by rw [ez]; exact hr) h.tm (by rw [ez]; exact hlen) (by rw [ez]; show sqU1 (nnx (zno S n)) (mse m) _ (mse m) ≤ (nlg (zno S n)).length + 1; rw [sqU1_at]; omega) e1) (fun μ41 h41 => gOk_some ⟨(F.up (bnP_rb hn)).tr h41.1, fun _ => ⟨fun z => absurd z hf0, fun _ => ⟨rfl, ?_⟩⟩, fun z => absurd hC z⟩)
    unfold zAns
    rw [if_pos hC, if_neg hf0]
    exact h41.2
  · have hf1 : mfl m = 1 := by omega
    refine gOk_chk p5 (gOk_lee (fun x9 h9 => gOk_chk p5 (gOk_lee (fun μ14 h14 => gOk_chk p5 (gOk_chk p5 (gOk_lee (fun μ18 h18 => gOk_chk p5 (gOk_lee (fun x21 h21 => gOk_chk p5 (gOk_lee (fun μ26 h26 => gOk_some ?_)))))))))))
    have e10 := hm.2.2.2.2.2.2.1
    have e9 : x9.toInt = ((max (nmt (zno S n) (mse m)) (mix m) : Nat) : Int) := by
      rw [h9]
      by_cases z : (μ 14 (5 * q + n) (mse m)) < (μ 19 t 10)
      · rw [if_pos z, e10]
        have := Int32.lt_iff_toInt_lt.mp z
        rw [u14, e10] at this
        omega
      · rw [if_neg z, u14]
        have : ¬ _ := fun w => z (Int32.lt_iff_toInt_lt.mpr w)
        rw [u14, e10] at this
        omega
    have g14 : μ14 14 (5 * q + n) (mse m) = x9 := by rw [h14, w3_at]
    rw [g14] at h18
    have g15 : μ18 15 (5 * q + n) (mse m) = μ 15 (5 * q + n) (mse m) := by rw [h18, w3_o _ _ (by omega), h14, w3_o _ _ (by omega)]
    have g9 : μ18 19 t 9 = μ 19 t 9 := by rw [h18, w3_o _ _ (by omega), h14, w3_o _ _ (by omega)]
    rw [g15, g9] at h21
    have et := hm.2.2.2.2.2.1
    have e21 : x21.toInt = max (nec (zno S n) (mse m)) (mto m : Int) := by
      rw [h21]
      by_cases z : (μ 15 (5 * q + n) (mse m)) < (μ 19 t 9)
      · rw [if_pos z, et]
        have := Int32.lt_iff_toInt_lt.mp z
        rw [u15, et] at this
        omega
      · rw [if_neg z, u15]
        have : ¬ _ := fun w => z (Int32.lt_iff_toInt_lt.mpr w)
        rw [u15, et] at this
        omega
    have hmt := h.mt hn hr hse
    have ex9 : (x9 + 1).toInt = ((max (nmt (zno S n) (mse m)) (mix m) + 1 : Nat) : Int) := by rw [ti_add e9 (y := 1) (b := 1) rfl (by omega) (by omega)]; omega
    have F : gFr (bnP (5 * q + n)) μ μ26 := by
      rw [h26, h18, h14]
      exact (gFr.w ⟨rfl, by omega⟩).tr ((gFr.w ⟨rfl, by omega⟩).tr (gFr.w ⟨rfl, by omega⟩))
    have up : ∀ f j, ¬ (f = 13 ∧ j = mse m) → ¬ (f = 14 ∧ j = mse m) → ¬ (f = 15 ∧ j = mse m) → μ26 f (5 * q + n) j = μ f (5 * q + n) j := fun f j j1 j2 j3 => by
      rw [h26, w3_o _ _ (fun z => j3 ⟨z.1, z.2.2⟩), h18, w3_o _ _ (fun z => j1 ⟨z.1, z.2.2⟩), h14, w3_o _ _ (fun z => j2 ⟨z.1, z.2.2⟩)]
    have b26 : BN μ26 (5 * q + n) n (zg S) (nAn (zno S n) (mse m) (max (nmt (zno S n) (mse m)) (mix m)) (max (nec (zno S n) (mse m)) (mto m : Int))) := by
      refine ⟨hb.1.cg (fun f j z => up f j (by omega) (by omega) (by omega)), by rw [up 11 6 (by omega) (by omega) (by omega)]; exact hb.2.1, by rw [up 11 10 (by omega) (by omega) (by omega)]; exact hb.2.2.1, fun r => absurd (hr.symm.trans r) (by decide), fun _ u hu => ?_⟩
      obtain ⟨v13, v14, v15⟩ := hb.2.2.2.2 hr u hu
      show _ = ((sqU1 (nnx (zno S n)) (mse m) _ u : Nat) : Int) ∧ _ = ((sqU1 (nmt (zno S n)) (mse m) _ u : Nat) : Int) ∧ _ = sqU1 (nec (zno S n)) (mse m) _ u
      by_cases z : u = mse m
      · subst z
        rw [sqU1_at, sqU1_at, sqU1_at, h26, w3_o _ _ (by omega), w3_o _ _ (by omega), w3_at, h18, w3_at, w3_o _ _ (by omega), h14, w3_at]
        exact ⟨ex9, e9, e21⟩
      · rw [sqU1_ne z, sqU1_ne z, sqU1_ne z, up 13 u (by omega) (by omega) (by omega), up 14 u (by omega) (by omega) (by omega), up 15 u (by omega) (by omega) (by omega)]
        exact ⟨v13, v14, v15⟩
    exact ⟨F.up (bnP_rb hn), fun _ => ⟨fun _ => ⟨rfl, h.1.node hn F b26⟩, fun z => absurd hf1 z⟩, fun z => absurd hC z⟩
end SqClu
