/-! The reference's calls: reconfigure, alike. -/
section SqApi6
variable {μ : gM} {S : sqSt} {B n k i : Nat} {a1 a2 a3 a4 a5 : Int32} {N : sqN} {A A' : Nat → Int32} {m : sqMs} {h : sqH}
theorem mX7_isGroup_ok (μ : gM) (a1 : Int32) : gOk (mX7_isGroup a1 μ) (fun r => (r = 0 ∨ r = 1) ∧ (r = 0 ↔ ¬ (1 ≤ a1.toInt ∧ a1.toInt ≤ 31))) := by
  unfold mX7_isGroup
  exact gOk_bp (mX7_isBetween_ok μ (a := a1.toInt) rfl (b := 1) rfl (c := 31) rfl) (fun r hr => gOk_chk hr.1 (gOk_some hr))
theorem mX7_canChange_ok (R : RZ B (μ 1 0) S) (hn : n < 5) (h1 : a1.toInt = (n : Int)) : gOk (mX7_canChange a1 μ) (fun r => (r = 0 ∨ r = 1) ∧ (r = 0 ↔ ¬ (nro (zno S n) = 2 ∧ (zc S (zno S n)).1 = 0 ∧ sqCI (nlg (zno S n)) ≤ ncm (zno S n)))) := by
  have hb := R.bd hn
  have hR := R.1.2.1 n hn
  unfold mX7_canChange
  refine gOk_bp (mX7_configuration_ok R hn h1) (fun r2 h2 => gOk_be (mX7_of_ok μ h1 (k := 1) rfl hn (by omega)) (gOk_eq hR.2.1 (y := 2) (b := 2) rfl (fun q => ?_) (fun q => gOk_some ⟨Or.inl rfl, fun _ z => q (by omega), fun _ => rfl⟩)))
  refine gOk_bp (mX7_cfg_ok R hn h1 h2).1 (fun r7 h7 => gOk_eq h7 (y := 0) (b := 0) rfl (fun q2 => ?_) (fun q2 => gOk_some ⟨Or.inl rfl, fun _ z => q2 (by omega), fun _ => rfl⟩))
  refine gOk_be (mX7_of_ok μ h1 (k := 4) rfl hn (by omega)) (gOk_lt hR.1.2.2.2.1 h2 (fun q3 => gOk_some ⟨Or.inl rfl, fun _ z => by omega, fun _ => rfl⟩) (fun q3 => gOk_some ⟨Or.inr rfl, fun z => absurd z (by decide), fun z => absurd ⟨by omega, by omega, by omega⟩ z⟩))
theorem sqC_joint {T c g : Nat} (hc : c < 32) (hg : g < 32) : sqC (T, 1, Int32.ofNat (32 * c + g)) = some (c, g) := by
  unfold sqC
  rw [if_pos rfl]
  have : (Int32.ofNat (32 * c + g)).toNatClampNeg = 32 * c + g := Int32.toNatClampNeg_ofNat_of_lt (by omega)
  rw [this, show (32 * c + g) / 32 = c by omega, show (32 * c + g) % 32 = g by omega]
theorem mX7_reconfigure_ok (R : RZ B (μ 1 0) S) (hB : B + 2 < 1000000000) : gOk (mX7_reconfigure a1 a2 μ) (rPost μ (B + 2) (zaConf S a1.toInt a2.toInt)) := by
  have R' := R.up (B' := B + 2) (by omega) hB
  unfold mX7_reconfigure zaConf
  refine gOk_bp (mX7_isNode_ok μ a1) (fun r2 h2 => gOk_guard (fun q => ?_) (fun q => ?_))
  · have hc : 0 ≤ a1.toInt ∧ a1.toInt < 5 := Classical.byContradiction fun z => q (h2.2.mpr z)
    rw [if_neg (show ¬ ¬ (0 ≤ a1.toInt ∧ a1.toInt < 5) from fun z => z hc)]
    obtain ⟨n, hn, h1, he⟩ := nd_of hc
    rw [he]
    have R1 := R.th (k := 0)
    refine gOk_bp (mX7_isGroup_ok _ a2) (fun r12 h12 => gOk_guard (fun q2 => ?_) (fun q2 => ?_))
    · have hg : 1 ≤ a2.toInt ∧ a2.toInt ≤ 31 := Classical.byContradiction fun z => q2 (h12.2.mpr z)
      rw [if_neg (show ¬ ¬ (1 ≤ a2.toInt ∧ a2.toInt ≤ 31) from fun z => z hg)]
      have R2 := R1.th (k := 0)
      refine gOk_bp (mX7_canChange_ok R2 hn h1) (fun r22 h22 => gOk_guard (fun q3 => ?_) (fun q3 => ?_))
      · have hca := Classical.byContradiction fun z => q3 (h22.2.mpr z)
        rw [if_neg (fun z => z hca)]
        obtain ⟨hr, hj, hci⟩ := hca
        have R3 := R2.th (k := 0)
        have hR3 := R3.1.2.1 n hn
        have r12 := hR3.1.2.2.2.2.2.2.2.2.2.1
        have hb := R.bd hn
        refine gOk_be (mX7_of_ok _ h1 (k := 12) rfl hn (by omega)) (gOk_guard (fun q4 => ?_) (fun q4 => ?_))
        · have hl : (nlg (zno S n)).length < nbs (zno S n) + 24 := by
            refine Nat.lt_of_not_le (fun z => q4 (ti_eq r12 ?_))
            show (24 : Int) = _
            omega
          rw [if_neg (by omega)]
          have R4 := R3.th (k := 0)
          have hll := (R.2.1.2.2.2.2.1 n hn).2.1
          have htm := (R.2.1.2.2.2.2.1 n hn).1
          have hG := R.G hn
          obtain ⟨g, hgg, hge⟩ : ∃ g : Nat, a2.toInt = (g : Int) ∧ a2.toInt.toNat = g := ⟨a2.toInt.toNat, by omega, rfl⟩
          rw [hge]
          have hz : zIL (B + 1) (zAdd S n 1 (Int32.ofNat (32 * (zc S (zno S n)).2 + g))) := R.2.1.add hn hr hl (fun c hc => by
            rw [sqC_joint hG.2.2 (by omega)] at hc
            cases hc
            exact ⟨⟨hG.2.2, by omega, by omega⟩, Or.inl ⟨hj, rfl, by have := hG.2.1; show (zc S (zno S n)).2 ≠ 0; omega⟩, hci⟩) ⟨by show ntm (zno S n) ≤ B + 1; omega, by show 1 ≤ 3; decide, fun _ => ⟨_, rfl, by have := hG.2.2; omega⟩, fun r => absurd r (by show ¬ 1 = 2; decide)⟩
          refine gOk_bp (mX7_last_ok R4.1 R4.2.1.2 R4.2.2 hn h1) (fun r42 h42 => gOk_let (gOk_bp (mX7_configuration_ok R4 hn h1) (fun r48 h48 => gOk_bp (mX7_cfg_ok R4 hn h1 h48).2 (fun r50 h50 => ?_))))
          have hv : (32 : Int32) * r50 + a2 = Int32.ofNat (32 * (zc S (zno S n)).2 + g) := by
            refine ti_eq (a := ((32 * (zc S (zno S n)).2 + g : Nat) : Int)) ?_ (ti_nat (by have := hG.2.2; omega))
            have := hG.2.2
            rw [ti_add (ti_mul (x := 32) (a := 32) rfl h50 (by omega) (by omega)) hgg (by omega) (by omega)]
            omega
          rw [hv]
          refine gOk_bp (mX7_append_ok R4 hn h1 hr hl (k := 1) rfl hz hB) (fun μ52 h52 => gOk_some (rPost.th (rPost.th (rPost.th (rPost_yes h52.1.two ?_ h52.2)))))
          rw [ti_add h42 (y := 1) (b := 1) rfl (by omega) (by omega)]
        · rw [if_pos (by
            rw [q4] at r12
            have e : (24 : Int32).toInt = 24 := rfl
            omega)]
          exact gOk_some (rPost.th (rPost.th (rPost.th (rPost_no (R3.up (by omega) hB) rfl (by omega) 0))))
      · rw [if_pos (h22.2.mp q3)]
        exact gOk_some (rPost.th (rPost.th (rPost_no (R2.up (by omega) hB) rfl (by omega) 0)))
    · rw [if_pos (h12.2.mp q2)]
      exact gOk_some (rPost.th (rPost_no (R1.up (by omega) hB) rfl (by omega) 0))
  · rw [if_pos (h2.2.mp q)]
    exact gOk_some (rPost_no R' rfl (by omega) 0)
theorem mX7_alike_in (R : RZ B (μ 1 0) S) (hth : μ 0 0 0 = 0) (hn : n < 5) (hi : i < 5) (h1 : a1.toInt = (n : Int)) (h2 : a2.toInt = (i : Int)) : gOk (
        gBp (mX7_of a1 7 μ) fun r10 =>
        gBp (mX7_of a2 7 μ) fun r12 =>
        gJon (fun (x13 : Int32) =>
            gBp (mX7_last a1 μ) fun r16 =>
            gBp (mX7_last a2 μ) fun r18 =>
            gJon (fun (x19 : Int32) =>
                if x13 ≤ x19 then
                  gJon (fun (x22 : Int32) =>
                      some (x22, μ)) fun j23 =>
                  gFx1 (fun rec25 (x24 : Int32) =>
                      if x19 ≤ x24 then
                        j23 x24
                      else
                        gBp (mX7_termAt a1 (x24 + 1) μ) fun r28 =>
                        gBp (mX7_termAt a2 (x24 + 1) μ) fun r30 =>
                        if r28 = r30 then
                          rec25 (x24 + 1)
                        else
                          j23 x24) 1000000 x13
                else
                  some ((-1), μ)) fun j20 =>
            if r18 ≤ r16 then
              gBp (mX7_last a2 μ) fun r34 =>
              j20 r34
            else
              gBp (mX7_last a1 μ) fun r36 =>
              j20 r36) fun j14 =>
        if r10 ≤ r12 then
          gBp (mX7_of a2 7 μ) fun r39 =>
          j14 r39
        else
          gBp (mX7_of a1 7 μ) fun r41 =>
          j14 r41) (fun q => q.2 = μ ∧ q.1.toInt = if min (nlg (zno S n)).length (nlg (zno S i)).length < max (nbs (zno S n)) (nbs (zno S i)) then -1 else (zAl (fun j => sqTT (nlg (zno S n)) j == sqTT (nlg (zno S i)) j) (min (nlg (zno S n)).length (nlg (zno S i)).length - max (nbs (zno S n)) (nbs (zno S i))) (max (nbs (zno S n)) (nbs (zno S i))) : Int)) := by
  have hB := R.2.2
  have L := R.2.1.2
  have hb1 := R.bd hn
  have hb2 := R.bd hi
  have hl1 := (L.2.2.2.1 n hn).2.1
  have hl2 := (L.2.2.2.1 i hi).2.1
  have s1 := (R.1.2.1 n hn).1.2.2.2.2.1
  have s2 := (R.1.2.1 i hi).1.2.2.2.2.1
  generalize hlo : max (nbs (zno S n)) (nbs (zno S i)) = lo at *
  generalize hhi : min (nlg (zno S n)).length (nlg (zno S i)).length = hi' at *
  refine gOk_be (mX7_of_ok μ h1 (k := 7) rfl hn (by omega)) (gOk_be (mX7_of_ok μ h2 (k := 7) rfl hi (by omega)) ?_)
  refine gOk_jq (γ := Int32) (fun x => x.toInt = (lo : Int)) (fun x13 h13 => ?_) (fun j14 hj14 => ?_)
  · refine gOk_bp (mX7_last_ok R.1 L hB hn h1) (fun r16 h16 => gOk_bp (mX7_last_ok R.1 L hB hi h2) (fun r18 h18 => ?_))
    refine gOk_jq (γ := Int32) (fun x => x.toInt = (hi' : Int)) (fun x19 h19 => ?_) (fun j20 hj20 => ?_)
    · refine gOk_le h13 h19 (fun q => ?_) (fun q => gOk_some ⟨rfl, ?_⟩)
      · rw [if_neg (by omega)]
        have key : ∀ (P : Nat → Bool) (hP : ∀ j, P j = (sqTT (nlg (zno S n)) j == sqTT (nlg (zno S i)) j)) (v : Nat), v = zAl P (hi' - lo) lo → gOk (gJon (fun (x22 : Int32) => some (x22, μ)) fun j23 => gFx1 (fun rec25 (x24 : Int32) => if x19 ≤ x24 then j23 x24 else gBp (mX7_termAt a1 (x24 + 1) μ) fun r28 => gBp (mX7_termAt a2 (x24 + 1) μ) fun r30 => if r28 = r30 then rec25 (x24 + 1) else j23 x24) 1000000 x13) (fun q => q.2 = μ ∧ q.1.toInt = (v : Int)) := by
          intro P hP v hv
          refine gOk_jon (gOk_fx1 (fun w (x24 : Int32) => ∃ j, w = hi' - j ∧ lo ≤ j ∧ j ≤ hi' ∧ x24.toInt = (j : Int) ∧ v = zAl P (hi' - j) j) ?_ 1000000 (hi' - lo) _ (by omega) ⟨lo, rfl, Nat.le_refl _, by omega, h13, hv⟩)
          intro rec w x24 hI ih
          obtain ⟨j, hw, j1, j2, j3, j4⟩ := hI
          subst hw
          refine gOk_le h19 j3 (fun z => gOk_some ⟨rfl, ?_⟩) (fun z => ?_)
          · rw [show hi' - j = 0 by omega] at j4
            rw [j4]; exact j3
          · have e1 : (x24 + 1).toInt = ((j + 1 : Nat) : Int) := by rw [ti_add j3 (y := 1) (b := 1) rfl (by omega) (by omega)]; omega
            rw [show hi' - j = (hi' - (j + 1)) + 1 by omega] at j4
            have j4' : v = if P (j + 1) = true then zAl P (hi' - (j + 1)) (j + 1) else j := j4
            have hp := hP (j + 1)
            refine gOk_bp (mX7_termAt_ok R.1 L hB hn h1 e1 (by omega) (by omega)) (fun r28 h28 => gOk_bp (mX7_termAt_ok R.1 L hB hi h2 e1 (by omega) (by omega)) (fun r30 h30 => ?_))
            refine gOk_eq h28 h30 (fun y => ?_) (fun y => gOk_some ⟨rfl, ?_⟩)
            · have : P (j + 1) = true := by rw [hp]; exact beq_iff_eq.mpr (by omega)
              rw [if_pos this] at j4'
              exact ih _ (hi' - (j + 1)) (by omega) ⟨j + 1, rfl, by omega, by omega, e1, j4'⟩
            · have : ¬ P (j + 1) = true := by rw [hp]; exact fun u => y (by rw [beq_iff_eq.mp u])
              rw [if_neg this] at j4'
              rw [j4']; exact j3
        exact key _ (fun _ => rfl) _ rfl
      · rw [if_pos (by omega)]; exact ti_m1
    · refine gOk_le h18 h16 (fun q => ?_) (fun q => ?_)
      · exact gOk_bp (mX7_last_ok R.1 L hB hi h2) (fun r34 h34 => hj20 _ (by rw [h34]; omega))
      · exact gOk_bp (mX7_last_ok R.1 L hB hn h1) (fun r36 h36 => hj20 _ (by rw [h36]; omega))
  · refine gOk_le s1 s2 (fun q => ?_) (fun q => ?_)
    · exact gOk_be (mX7_of_ok μ h2 (k := 7) rfl hi (by omega)) (hj14 _ (by rw [s2]; omega))
    · exact gOk_be (mX7_of_ok μ h1 (k := 7) rfl hn (by omega)) (hj14 _ (by rw [s1]; omega))
theorem mX7_alike_ok (R : RZ B (μ 1 0) S) : gOk (mX7_alike a1 a2 μ) (rPost μ B (zaAlike S a1.toInt a2.toInt)) := by
  unfold mX7_alike zaAlike
  refine gOk_bp (mX7_isNode_ok μ a1) (fun r2 h2 => gOk_jon (gOk_jon (gOk_if (fun q => ?_) (fun q => ?_))))
  · rw [if_pos (fun z => (h2.2.mp q) z.1)]
    exact gOk_fails (Or.inr rfl) (fun z => absurd z (by decide)) (fun _ => gOk_if (fun z => absurd z (by decide)) (fun _ => gOk_some (rPost_no R rfl (by omega) 0)))
  · have hc : 0 ≤ a1.toInt ∧ a1.toInt < 5 := Classical.byContradiction fun z => q (h2.2.mpr z)
    refine gOk_bp (mX7_isNode_ok μ a2) (fun r41 h41 => gOk_guard (fun q2 => ?_) (fun q2 => ?_))
    · have hc2 : 0 ≤ a2.toInt ∧ a2.toInt < 5 := Classical.byContradiction fun z => q2 (h41.2.mpr z)
      rw [if_neg (show ¬ ¬ ((0 ≤ a1.toInt ∧ a1.toInt < 5) ∧ (0 ≤ a2.toInt ∧ a2.toInt < 5)) from fun z => z ⟨hc, hc2⟩)]
      obtain ⟨n, hn, h1, he⟩ := nd_of hc
      obtain ⟨i, hi, h1', he'⟩ := nd_of hc2
      have R1 := R.th (k := 0)
      rw [he, he']
      refine gOk_imp (mX7_alike_in R1 (w3_000 μ 0) hn hi h1 h1') (fun q h => ?_)
      obtain ⟨x, μx⟩ := q
      obtain ⟨e1, e2⟩ := h
      have e1' : μx = w3 μ 0 0 0 0 := e1
      subst e1'
      exact rPost_yes gF2.rf e2 R1
    · rw [if_pos (fun z => (h41.2.mp q2) z.2)]
      exact gOk_some (rPost_no R rfl (by omega) 0)
end SqApi6
