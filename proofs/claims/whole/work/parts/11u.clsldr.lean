/-! The class: what comes from a leader. -/
section SqClx
variable {μ μ' μ1 : gM} {n g b k i nc B t t1 s q kk : Nat} {l : List sqE} {a1 a2 a3 a4 : Int32} {e : sqE} {m : sqMs} {S S' : sqSt} {N : sqN} {h : sqH}
theorem zTk_nd (S : sqSt) (n : Nat) (lg : List sqE) (rem : Nat) (N : sqN) : zN (zTk S n lg rem) n N = zS (zN S n N) 5 (Int32.ofNat rem) := by
  show zS (zN (zN S n (nLg (zno S n) lg)) n N) 5 (Int32.ofNat rem) = _
  rw [zN_zN]
theorem mX0_takeAppend_ok (h : RY B μ q S) (hB8 : B < 800000000) (hq : q < nc) (hnc : nc ≤ 2) (hn : n < 5) (hm : BM μ t g m) (hd : t ≠ nwP μ q 40) (hse : mse m < 5) (hk : mki m = 2) (hL : LM B (zti S) m) (hLe : (mes m).length = mfl m) : gOk (mX0_takeAppend nc q (5 * q + n) t μ) (fun p => p.1 = 0 ∧ gFr (rbP q) μ p.2 ∧ RB p.2 q (zApp S n m)) := by
  have hlen := h.len hn
  have hT := h.tm
  have hb := h.1.2.1 n hn
  have hcl := hb.1.2.2.2.2.2.1
  have hB := h.2.2
  have hixB : mix m + (mes m).length ≤ B := hL.2.2.1 hk
  have m10 := hm.2.2.2.2.2.2.1
  obtain ⟨c11, c13, c3, cE⟩ := hm.2.2.2.2.2.2.2.2.2.2.1 hk
  unfold mX0_takeAppend zApp
  refine gOk_bp (mX1_fits_ok hcl (by omega) m10 c11) (fun r2 h2 => ?_)
  by_cases w : (nlg (zno S n)).length < mix m ∨ (nbs (zno S n) < mix m ∧ sqTT (nlg (zno S n)) (mix m) ≠ mbf m)
  · rw [if_pos w] at h2
    rw [if_pos w]
    refine gOk_if (fun _ => ?_) (fun z => absurd h2 z)
    refine gOk_bp (mX1_lastIndex_ok hcl (by omega)) (fun r61 h61 => gOk_lee (fun x62 h62 => ?_))
    have e1 : ((μ 19 t 10) - 1).toInt = ((mix m - 1 : Nat) : Int) := by rw [ti_sub m10 (y := 1) (b := 1) rfl (by omega) (by omega)]; omega
    have e62 : x62.toInt = ((min (nlg (zno S n)).length (mix m - 1) : Nat) : Int) := by
      rw [h62]
      by_cases z : ((μ 19 t 10) - 1) < r61
      · have := Int32.lt_iff_toInt_lt.mp z
        rw [e1, h61] at this
        rw [if_pos z, e1]
        omega
      · have := Int.not_lt.mp (fun y => z (Int32.lt_iff_toInt_lt.mpr y))
        rw [e1, h61] at this
        rw [if_neg z, h61]
        omega
    exact gOk_bp (mX0_answer_ok h.1 hq hnc hn hT hm hd hse (fl := 0) (Nat.zero_le 1) rfl e62) (fun μ67 h67 => gOk_some ⟨rfl, h67.1, h67.2⟩)
  · rw [if_neg w] at h2
    rw [if_neg w]
    refine gOk_if (fun z => absurd (h2.symm.trans z) (by decide)) (fun _ => gOk_lee (fun x4 h4 => ?_))
    have loop := fun {Q : Int32 × gM → Prop} {j10 j25 : Int32 → gM → Option (Int32 × gM)} hj => mX0_takeAppend_loop (nc := nc) (Q := Q) (j10 := j10) (j25 := j25) h hB8 hn hm hk hL hLe hj (x4 := x4) (by rw [h4]; exact m10)
    generalize sqTake (nbs (zno S n)) (mes m) (nlg (zno S n)) (mix m) = T at *
    refine gOk_jq2 (fun (x8 : Int32) (μ9 : gM) => x8.toInt = (T.2.1 : Int) ∧ gFr (apP q n) μ μ9 ∧ RB μ9 q (zTk S n T.1 T.2.2)) (fun x8 μ9 hc => ?_) (fun j10 hj10 => gOk_jq2 (fun (x8 : Int32) (μ9 : gM) => x8.toInt = (T.2.1 : Int) ∧ gFr (apP q n) μ μ9 ∧ RB μ9 q (zTk S n T.1 T.2.2)) (fun x8 μ9 hc => hj10 x8 μ9 hc) (fun j25 hj25 => loop (fun x8 μ9 c1 c2 c3 => ⟨hj10 x8 μ9 ⟨c1, c2, c3⟩, hj25 x8 μ9 ⟨c1, c2, c3⟩⟩)))
    obtain ⟨e8, F9, R9⟩ := hc
    have b9 := R9.2.1 n hn
    rw [zTk_no] at b9
    have e13 : (μ9 19 t 13).toInt = (mcm m : Int) := ((hm.ap F9).2.2.2.2.2.2.2.2.2.2.1 hk).2.1
    have e9 : (μ9 11 (5 * q + n) 9).toInt = (ncm (zno S n) : Int) := b9.1.2.2.2.2.1
    refine gOk_lee (fun x11 h11 => gOk_lee (fun x15 h15 => gOk_lee (fun μ19 h19 => ?_)))
    have e11 : x11.toInt = ((min (mcm m) T.2.1 : Nat) : Int) := by
      rw [h11]
      by_cases z : x8 < (μ9 19 t 13)
      · have := Int32.lt_iff_toInt_lt.mp z
        rw [e8, e13] at this
        rw [if_pos z, e8]
        omega
      · have := Int.not_lt.mp (fun y => z (Int32.lt_iff_toInt_lt.mpr y))
        rw [e8, e13] at this
        rw [if_neg z, e13]
        omega
    have e15 : x15.toInt = ((max (ncm (zno S n)) (min (mcm m) T.2.1) : Nat) : Int) := by
      rw [h15]
      by_cases z : (μ9 11 (5 * q + n) 9) < x11
      · have := Int32.lt_iff_toInt_lt.mp z
        rw [e9, e11] at this
        rw [if_pos z, e11]
        omega
      · have := Int.not_lt.mp (fun y => z (Int32.lt_iff_toInt_lt.mpr y))
        rw [e9, e11] at this
        rw [if_neg z, e9]
        omega
    have F19 : gFr (apP q n) μ9 μ19 := by rw [h19]; exact gFr.w (Or.inl ⟨rfl, by omega⟩)
    have FF := F9.tr F19
    have b19 : BN μ19 (5 * q + n) n (zg S) (nCm (nLg (zno S n) T.1) (max (ncm (zno S n)) (min (mcm m) T.2.1))) := by rw [h19]; exact b9.cm e15
    have R19 := R9.node hn (μ' := μ19) (by rw [h19]; exact gFr.w ⟨rfl, by omega⟩) b19
    rw [zTk_nd] at R19
    generalize hS : zS (zN S n (nCm (nLg (zno S n) T.1) (max (ncm (zno S n)) (min (mcm m) T.2.1)))) 5 (Int32.ofNat T.2.2) = S9 at *
    have hT9 : zti S9 + zde S9 < 2000000000 := by rw [← hS]; exact hT
    exact gOk_bp (mX0_answer_ok R19 hq hnc hn hT9 (hm.ap FF) (by rw [nwP_ap FF]; exact hd) hse (fl := 1) (Nat.le_refl 1) rfl e8) (fun μ22 h22 => gOk_some ⟨rfl, (FF.up (apP_rb hn)).tr h22.1, h22.2⟩)
theorem BN.lb (h : BN μ k n g N) {l : List sqE} {b : Nat} (F : gFr (clP k) μ μ') (c : CL μ' k g l b) (f : CF μ' k g l b) : BN μ' k n g (nBs (nLg N l) b) := by
  have o : ∀ f j, f = 11 ∨ 13 ≤ f ∧ f ≤ 15 → μ' f k j = μ f k j := fun f j z => F f k j (fun y => by have := y.2; omega)
  obtain ⟨⟨h0, h5, h7, h8, h9, -, -⟩, h6, h10, h11, h13⟩ := h
  unfold BN BN0 BN1
  rw [o 11 0 (by omega), o 11 5 (by omega), o 11 6 (by omega), o 11 7 (by omega), o 11 8 (by omega), o 11 9 (by omega), o 11 10 (by omega), o 11 11 (by omega)]
  refine ⟨⟨h0, h5, h7, h8, h9, c, f⟩, h6, h10, h11, fun r u hu => ?_⟩
  rw [o 13 u (by omega), o 14 u (by omega), o 15 u (by omega)]
  exact h13 r u hu
theorem mX0_takeSnapshot_ok (h : RY B μ q S) (hq : q < nc) (hnc : nc ≤ 2) (hn : n < 5) (hm : BM μ t (zg S) m) (hd : t ≠ nwP μ q 40) (hse : mse m < 5) (hk : mki m = 4) (hix : mix m < 900000000) (hLes : LL B (mes m)) (hlen : (mes m).length = mix m) (hTT : sqTT (mes m) (mix m) = mfl m) (hsame : (mix m ≤ (nlg (zno S n)).length ∧ sqTT (nlg (zno S n)) (mix m) = mfl m) → 0 < mix m → (nlg (zno S n)).take (mix m) = mes m) : gOk (mX0_takeSnapshot nc q (5 * q + n) t μ) (fun p => p.1 = 0 ∧ gFr (rbP q) μ p.2 ∧ RB p.2 q (zIns S n m)) := by
  have hln := h.len hn
  have hT := h.tm
  have hb := h.1.2.1 n hn
  have hcl := hb.1.2.2.2.2.2.1
  have m10 := hm.2.2.2.2.2.2.1
  have hbs : nbs (zno S n) ≤ ncm (zno S n) := by
    obtain ⟨⟨hh, I0⟩, L⟩ := h.2.1
    exact (zCmx_bd I0 hn).2.2.2
  have hLL := (h.2.1.2.2.2.2.1 n hn).2.2.1
  obtain ⟨c11, c14, c15, c16⟩ := hm.2.2.2.2.2.2.2.2.2.2.2 hk
  unfold mX0_takeSnapshot
  refine gOk_jq (γ := gM) (fun μ1 => gFr (apP q n) μ μ1 ∧ ∃ S1, RB μ1 q S1 ∧ zti S1 = zti S ∧ zde S1 = zde S ∧ zIns S n m = zOk S1 n m 1 (ncm (zno S1 n))) (fun μ1 hc => ?_) (fun j2 hj2 => ?_)
  · obtain ⟨F1, S1, R1, t1, t2, e1⟩ := hc
    rw [e1]
    exact gOk_bp (mX0_answer_ok R1 hq hnc hn (by rw [t1, t2]; exact hT) (hm.ap F1) (by rw [nwP_ap F1]; exact hd) hse (fl := 1) (Nat.le_refl 1) rfl (R1.2.1 n hn).1.2.2.2.2.1) (fun μ4 h4 => gOk_some ⟨rfl, (F1.up (apP_rb hn)).tr h4.1, h4.2⟩)
  · refine gOk_le m10 hb.1.2.2.2.2.1 (fun w => hj2 _ ⟨gFr.rf, S, h.1, rfl, rfl, ?_⟩) (fun w => ?_)
    · unfold zIns
      rw [if_neg (by omega)]
    · refine gOk_bp (mX1_install_ok hcl hLL hln hlen hix (by omega) hLes m10 c11 c14 c15 c16 hTT (fun y1 y2 => hsame ⟨y1, y2⟩ (by omega))) (fun μ7 h7 => ?_)
      obtain ⟨F7, cl7, cf7⟩ := h7
      have m7 : μ7 19 t 10 = μ 19 t 10 := F7 19 t 10 (fun y => by have := y.2; omega)
      have b7 := hb.lb F7 cl7 cf7
      have b8 := b7.cm (x := μ7 19 t 10) (kk := mix m) (by rw [m7]; exact m10)
      have R8 := h.1.node hn (μ' := w3 μ7 11 (5 * q + n) 9 (μ7 19 t 10)) ((F7.up clP_bn).tr (gFr.w ⟨rfl, by omega⟩)) b8
      refine gOk_lee (fun μ8 h8 => gOk_lee (fun μ10 h10 => hj2 _ ⟨?_, zS (zN S n (nCm (nBs (nLg (zno S n) (if mix m ≤ (nlg (zno S n)).length ∧ sqTT (nlg (zno S n)) (mix m) = mfl m then nlg (zno S n) else mes m)) (mix m)) (mix m))) 6 1, ?_, rfl, rfl, ?_⟩))
      · rw [h10, h8]
        exact ((F7.up clP_bn).up bnP_ap).tr ((gFr.w (Or.inl ⟨rfl, by omega⟩)).tr (gFr.w (Or.inr ⟨rfl, rfl⟩)))
      · rw [← h8] at R8
        rw [h10]
        exact R8.st (c := 6) (by omega) (by omega) 1
      · unfold zIns
        rw [if_pos (by omega)]
        have ez : ncm (zno (zS (zN S n (nCm (nBs (nLg (zno S n) (if mix m ≤ (nlg (zno S n)).length ∧ sqTT (nlg (zno S n)) (mix m) = mfl m then nlg (zno S n) else mes m)) (mix m)) (mix m))) 6 1) n) = mix m := by
          rw [zS_no, zN_at]; rfl
        rw [ez]
theorem mX0_ldr_ok (R : RB μ q S) (I : zI h S) (L : LI B S) (hB : B < 800000000) (hq : q < nc) (hnc : nc ≤ 2) (hn : n < 5) (hm : BM μ t (zg S) m) (ht : 42 * q ≤ t ∧ t < 42 * q + 42) (hd : t ≠ nwP μ q 40) (M : sqMI h m) (LMm : LM B (zti S) m) (hk : mki m = 2 ∨ mki m = 4) (hle : mtm m ≤ ntm (zno S n)) : gOk (
          if (μ 11 (5 * q + n) 7) ≤ (μ 19 t 7) then
            gBp (mX4_follow nc (5 * q + n) μ) fun μ15 =>
            gBp (mX0_resetTimer nc q (5 * q + n) μ15) fun μ17 =>
            if (μ17 19 t 4) = 2 then
              gBd (mX0_takeAppend nc q (5 * q + n) t μ17) fun r23 μ24 =>
              some (r23, μ24)
            else
              gBd (mX0_takeSnapshot nc q (5 * q + n) t μ17) fun r20 μ21 =>
              some (r20, μ21)
          else
            gBp (mX0_answer nc q (5 * q + n) t 0 0 μ) fun μ26 =>
            some ((0 : Int32), μ26)) (fun p => p.1 = 0 ∧ gFr (rbP q) μ p.2 ∧ RB p.2 q (zLdr S n m)) := by
  have RY0 : RY B μ q S := ⟨R, ⟨⟨h, I⟩, L⟩, by omega⟩
  have hb := R.2.1 n hn
  have m7 := hm.2.2.2.1
  have hse := M.1.1
  unfold zLdr
  refine gOk_le hb.1.2.2.1 m7 (fun w => ?_) (fun w => ?_)
  · rw [if_neg (by omega)]
    refine gOk_bp (mX4_follow_ok hb) (fun μ15 h15 => ?_)
    have R15 := R.node hn (h15.1.up ldP_bn) h15.2
    refine gOk_bp (mX0_resetTimer_ok R15 hn) (fun μ17 h17 => ?_)
    have F17 : gFr (bnP (5 * q + n)) μ μ17 := (h15.1.up ldP_bn).tr h17.1
    have R17 := h17.2
    rw [zN_at, zN_zN, zTim_zN] at R17
    have et : ntm (nRo (zno S n) 0) = ntm (zno S n) := rfl
    rw [et] at R17
    generalize zTim S n (ntm (zno S n)) = X at *
    obtain ⟨I1, e1, e2⟩ := I.ldr1 hn X rfl
    obtain ⟨L1, e3⟩ := L.fo hn X rfl
    have eg : zg (zN S n (nTi (nRo (zno S n) 0) X)) = zg S := rfl
    generalize zN S n (nTi (nRo (zno S n) 0) X) = S1 at *
    have L1m : LM B (zti S1) m := by rw [e3]; exact LMm
    have hm17 : BM μ17 t (zg S1) m := by rw [eg]; exact hm.ap (F17.up bnP_ap)
    have hd17 : t ≠ nwP μ17 q 40 := by rw [nwP_ap (F17.up bnP_ap)]; exact hd
    have R1 : RY B μ17 q S1 := ⟨R17, ⟨⟨h, I1⟩, L1⟩, by omega⟩
    refine gOk_eq hm17.1 (y := 2) (b := 2) rfl (fun z => ?_) (fun z => ?_)
    · have hk2 : mki m = 2 := by omega
      rw [if_pos hk2]
      obtain ⟨m5, m6⟩ : (mes m).length ≤ 4 ∧ mfl m = (mes m).length := ⟨(M.2.2.2.1 hk2).2.2.2.2.1, (M.2.2.2.1 hk2).2.2.2.2.2.1⟩
      exact gOk_bd (mX0_takeAppend_ok R1 hB hq hnc hn hm17 hd17 hse hk2 L1m m6.symm) (fun r μ24 hp => gOk_some ⟨hp.1, (F17.up (bnP_rb hn)).tr hp.2.1, hp.2.2⟩)
    · have hk4 : mki m = 4 := by omega
      rw [if_neg (by omega)]
      obtain ⟨i1, i2, i3, i4⟩ := I1.ins1 L1 hn M L1m hk4 e1 (by omega)
      exact gOk_bd (mX0_takeSnapshot_ok R1 hq hnc hn hm17 hd17 hse hk4 (by have := LMm.2.1; omega) L1m.2.2.2.2.2.2.2.2.1 i1 i2 i3) (fun r μ24 hp => gOk_some ⟨hp.1, (F17.up (bnP_rb hn)).tr hp.2.1, hp.2.2⟩)
  · rw [if_pos (by omega)]
    exact gOk_bp (mX0_answer_ok R hq hnc hn RY0.tm hm hd hse (fl := 0) (ix := 0) (Nat.zero_le 1) rfl rfl) (fun μ26 h26 => gOk_some ⟨rfl, h26.1, h26.2⟩)
end SqClx
