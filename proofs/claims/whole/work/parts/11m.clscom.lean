/-! The class: committing, the end of it. -/
section SqClc
variable {μ μ' μ1 : gM} {n g b k i nc B t t1 s q kk : Nat} {l : List sqE} {a1 a2 a3 a4 : Int32} {e : sqE} {m : sqMs} {S S' : sqSt} {N : sqN}
theorem BN.lg (h : BN μ k n g N) {l : List sqE} (F : gFr (clP k) μ μ') (c : CL μ' k g l (nbs N)) (f : CF μ' k g l (nbs N)) : BN μ' k n g (nLg N l) := by
  have o : ∀ f j, f = 11 ∨ 13 ≤ f ∧ f ≤ 15 → μ' f k j = μ f k j := fun f j z => F f k j (fun y => by have := y.2; omega)
  obtain ⟨⟨h0, h5, h7, h8, h9, -, -⟩, h6, h10, h11, h13⟩ := h
  unfold BN BN0 BN1
  rw [o 11 0 (by omega), o 11 5 (by omega), o 11 6 (by omega), o 11 7 (by omega), o 11 8 (by omega), o 11 9 (by omega), o 11 10 (by omega), o 11 11 (by omega)]
  refine ⟨⟨h0, h5, h7, h8, h9, c, f⟩, h6, h10, h11, fun r u hu => ?_⟩
  rw [o 13 u (by omega), o 14 u (by omega), o 15 u (by omega)]
  exact h13 r u hu
theorem mX0_commit_fin (h : RY B μ q S) (hn : n < 5) (hr : nro (zno S n) = 2) (hkk : kk = zCmx S n (zno S n)) (μ3 : gM) (F : gFr (bnP (5 * q + n)) μ μ3) (h3 : RB μ3 q (zN S n (nCm (zno S n) kk))) :
    gOk (gBp (mX4_isConfigurationCommitted nc (5 * q + n) μ3) fun r6 =>
      if r6 = 0 then
        some μ3
      else
        gBp (mX1_isJoint nc (5 * q + n) μ3) fun r9 =>
        if r9 = 0 then
          gBp (mX4_isMember nc (5 * q + n) μ3) fun r12 =>
          if r12 = 0 then
            gBp (mX4_follow nc (5 * q + n) μ3) fun μ15 =>
            gBp (mX0_resetTimer nc q (5 * q + n) μ15) fun μ17 =>
            some μ17
          else
            some μ3
        else
          gBd (mX1_append nc (5 * q + n) (μ3 11 (5 * q + n) 7) 2 (μ3 12 (5 * q + n) 11) μ3) fun r19 μ20 =>
          some μ20) (fun μ' => gFr (bnP (5 * q + n)) μ μ' ∧ RB μ' q (zCom S n)) := by
  have hG := h.G hn
  have hlen := h.len hn
  have bn3 : BN μ3 (5 * q + n) n (zg S) (nCm (zno S n) kk) := by
    have := h3.2.1 n hn
    rw [zN_at] at this
    exact this
  have hbd : nbs (zno S n) ≤ kk := by
    obtain ⟨⟨hh, I0⟩, L⟩ := h.2.1
    have a := (zCmx_bd I0 hn).2.2.2
    have b := (zCmx_ok I0 hn hr).1
    omega
  have hLL := (h.2.1.2.2.2.2.1 n hn).2.2.1
  have hT := (h.2.1.2.2.2.2.1 n hn).1
  refine gOk_bp (mX4_isConfigurationCommitted_ok bn3.1 hbd) (fun r6 h6 => ?_)
  by_cases q1 : sqCI (nlg (zno S n)) ≤ kk
  · rw [if_pos (show sqCI (nlg (nCm (zno S n) kk)) ≤ ncm (nCm (zno S n) kk) from q1)] at h6
    refine gOk_if (fun z => absurd (h6.symm.trans z) (by decide)) (fun _ => ?_)
    refine gOk_bp (mX1_isJoint_ok bn3.1.2.2.2.2.2.2) (fun r9 h9 => ?_)
    have h9 : r9 = if (zc S (zno S n)).1 = 0 then 0 else 1 := h9
    by_cases q2 : (zc S (zno S n)).1 = 0
    · rw [if_pos q2] at h9
      refine gOk_if (fun _ => ?_) (fun z => absurd h9 z)
      refine gOk_bp (mX4_isMember_ok bn3.1 hG hn) (fun r12 h12 => ?_)
      have h12 : r12 = if ((zc S (zno S n)).1.testBit n || (zc S (zno S n)).2.testBit n) then 1 else 0 := h12
      rw [q2, Nat.zero_testBit, Bool.false_or] at h12
      by_cases q3 : (zc S (zno S n)).2.testBit n = true
      · rw [if_pos q3] at h12
        refine gOk_if (fun z => absurd (h12.symm.trans z) (by decide)) (fun _ => gOk_some ⟨F, ?_⟩)
        unfold zCom
        rw [← hkk, if_pos q1, if_neg (fun z => z q2), if_pos q3]
        exact h3
      · rw [if_neg q3] at h12
        refine gOk_if (fun _ => ?_) (fun z => absurd h12 z)
        refine gOk_bp (mX4_follow_ok bn3) (fun μ15 h15 => ?_)
        have h4 := h3.node hn (h15.1.up ldP_bn) h15.2
        refine gOk_bp (mX0_resetTimer_ok h4 hn) (fun μ17 h17 => gOk_some ⟨F.tr ((h15.1.up ldP_bn).tr h17.1), ?_⟩)
        have h2 := h17.2
        rw [zN_at, zN_zN, zN_zN, zTim_zN, zTim_zN] at h2
        have et : ntm (nRo (nCm (zno S n) kk) 0) = ntm (zno S n) := rfl
        rw [et] at h2
        unfold zCom
        rw [← hkk, if_pos q1, if_neg (fun z => z q2), if_neg q3]
        exact h2
    · rw [if_neg q2] at h9
      refine gOk_if (fun z => absurd (h9.symm.trans z) (by decide)) (fun _ => ?_)
      have hw : (zc S (zno S n)).2 < 32 := hG.2.2
      have hv : μ3 12 (5 * q + n) 11 = Int32.ofNat (zc S (zno S n)).2 := ti_of bn3.1.2.2.2.2.2.2.2.2
      have hLL2 : LL B (nlg (zno S n) ++ [(ntm (zno S n), 2, Int32.ofNat (zc S (zno S n)).2)]) := hLL.app (fun e he => by
        cases List.mem_singleton.mp he
        exact ⟨hT, Nat.le_succ 2, fun z => (by cases z), fun _ => ⟨_, rfl, hw⟩⟩)
      refine gOk_bd (mX1_append_ok (e := (ntm (zno S n), 2, Int32.ofNat (zc S (zno S n)).2)) bn3.1.2.2.2.2.2.1 hLL2 hlen bn3.1.2.2.1 rfl hv) (fun r19 μ20 hp => gOk_some ?_)
      by_cases q4 : (nlg (zno S n)).length < nbs (zno S n) + 24
      · obtain ⟨-, f20, c20, g20⟩ := hp.1 q4
        have f20 : gFr (clP (5 * q + n)) μ3 μ20 := f20
        have h5 := h3.node hn (f20.up clP_bn) (bn3.lg f20 c20 g20)
        refine ⟨F.tr (f20.up clP_bn), ?_⟩
        rw [zN_zN] at h5
        unfold zCom
        rw [← hkk, if_pos q1, if_pos q2, if_pos q4]
        exact h5
      · have he := hp.2 (Nat.le_of_not_lt q4)
        have he2 : μ20 = μ3 := congrArg Prod.snd he
        rw [he2]
        refine ⟨F, ?_⟩
        unfold zCom
        rw [← hkk, if_pos q1, if_pos q2, if_neg q4]
        exact h3
  · rw [if_neg (show ¬ sqCI (nlg (nCm (zno S n) kk)) ≤ ncm (nCm (zno S n) kk) from q1)] at h6
    refine gOk_if (fun _ => gOk_some ⟨F, ?_⟩) (fun z => absurd h6 z)
    unfold zCom
    rw [← hkk, if_neg q1]
    exact h3
end SqClc
