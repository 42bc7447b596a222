/-! The class: committing. -/
section SqClc2
variable {μ μ' μ1 : gM} {n g b k i nc B t t1 s q kk : Nat} {l : List sqE} {a1 a2 a3 a4 : Int32} {e : sqE} {m : sqMs} {S S' : sqSt} {N : sqN}
theorem BN.cm (h : BN μ k n g N) {x : Int32} (hx : x.toInt = (kk : Int)) : BN (w3 μ 11 k 9 x) k n g (nCm N kk) := by
  obtain ⟨⟨h0, h5, h7, h8, h9, hl, hf⟩, h6, h10, h11, h13⟩ := h
  refine ⟨⟨by rw [w3_o _ _ (by omega)]; exact h0, by rw [w3_o _ _ (by omega)]; exact h5, by rw [w3_o _ _ (by omega)]; exact h7, by rw [w3_o _ _ (by omega)]; exact h8, by rw [w3_at]; exact hx, hl.cg (fun j _ _ => w3_o _ _ (by omega)) (fun f j _ _ _ => w3_o _ _ (by omega)), ?_⟩, by rw [w3_o _ _ (by omega)]; exact h6, by rw [w3_o _ _ (by omega)]; exact h10, fun r => by rw [w3_o _ _ (by omega)]; exact h11 r, fun r u hu => ?_⟩
  · unfold CF
    rw [w3_o _ _ (by omega), w3_o _ _ (by omega), w3_o _ _ (by omega)]
    exact hf
  · rw [w3_o _ _ (by omega), w3_o _ _ (by omega), w3_o _ _ (by omega)]
    exact h13 r u hu
theorem mX0_commit_loop (h : RY B μ q S) (hn : n < 5) (hr : nro (zno S n) = 2) {P : Nat → Bool} (hP : ∀ i, P i = (sqTT (nlg (zno S n)) i == ntm (zno S n) && sqQb (zc S (zno S n)) (zHold (zno S n) n i))) {F : Nat → Nat} (hlo : ∀ i, i ≤ ncm (zno S n) → F i = ncm (zno S n)) (hup : ∀ i, ncm (zno S n) < i + 1 → F (i + 1) = if P (i + 1) = true then i + 1 else F i) (hkk : kk = F (nlg (zno S n)).length) {Q : gM → Prop} {j4 : gM → Option gM} (hj4 : ∀ μ3, gFr (bnP (5 * q + n)) μ μ3 → RB μ3 q (zN S n (nCm (zno S n) kk)) → gOk (j4 μ3) Q) {r2 : Int32} (h2 : r2.toInt = ((nlg (zno S n)).length : Int)) :
    gOk (gFx2 (fun rec23 (x21 : Int32) (μ22 : gM) =>
      if x21 ≤ (μ22 11 (5 * q + n) 9) then
        j4 μ22
      else
        gBp (mX1_termAt nc (5 * q + n) x21 μ22) fun r26 =>
        if r26 = (μ22 11 (5 * q + n) 7) then
          gBp (mX4_holders nc (5 * q + n) x21 μ22) fun r29 =>
          gBp (mX1_isQuorum nc (5 * q + n) r29 μ22) fun r31 =>
          if r31 = 0 then
            rec23 (x21 + (-1)) μ22
          else
            gLet (α := gM) (w3 μ22 11 (5 * q + n) 9 x21) fun μ33 =>
            rec23 (x21 + (-1)) μ33
        else
          rec23 (x21 + (-1)) μ22) 1000000 r2 μ) Q := by
  have hb := h.1.2.1 n hn
  have hlen := h.len hn
  have hl24 : (nlg (zno S n)).length ≤ nbs (zno S n) + 24 ∧ nbs (zno S n) ≤ ncm (zno S n) := by
    obtain ⟨⟨hh, I0⟩, L⟩ := h.2.1
    exact (zCmx_bd I0 hn).2.2
  refine gOk_fx2 (fun m (x38 : Int32) (μ39 : gM) => ∃ i : Nat, m = i - ncm (zno S n) ∧ x38.toInt = (i : Int) ∧ ((μ39 = μ ∧ i ≤ (nlg (zno S n)).length ∧ kk = F i) ∨ (gFr (bnP (5 * q + n)) μ μ39 ∧ RB μ39 q (zN S n (nCm (zno S n) kk)) ∧ i ≤ kk))) ?_ 1000000 ((nlg (zno S n)).length - ncm (zno S n)) _ _ (by omega) ⟨_, rfl, h2, Or.inl ⟨rfl, Nat.le_refl _, hkk⟩⟩
  intro rec m x38 μ39 hI ih
  obtain ⟨i, hm, i1, i2⟩ := hI
  subst hm
  rcases i2 with ⟨he, i2, i3⟩ | ⟨i2, i3, i4⟩
  · subst he
    refine gOk_le i1 hb.1.2.2.2.2.1 (fun z => ?_) (fun z => ?_)
    · have hk2 : kk = ncm (zno S n) := i3.trans (hlo i (by omega))
      refine hj4 _ gFr.rf ?_
      rw [hk2, nCm_id]
      exact h.1.node hn gFr.rf hb
    · obtain ⟨i', hi'⟩ : ∃ i', i = i' + 1 := ⟨i - 1, by omega⟩
      subst hi'
      obtain ⟨y, hye, hm1'⟩ := ti_pred i1
      rw [hye]
      rw [hup i' (by omega)] at i3
      have skip : P (i' + 1) = false → gOk (rec y μ39) Q := fun hf => by
        rw [hf, if_neg (by decide)] at i3
        exact ih _ _ (i' - ncm (zno S n)) (by omega) ⟨i', rfl, hm1', Or.inl ⟨rfl, by omega, i3⟩⟩
      refine gOk_bp (mX1_termAt_ok hb.1.2.2.2.2.2.1 (by omega) i1 (by omega) i2) (fun r26 h26 => gOk_eq h26 hb.1.2.2.1 (fun q2 => ?_) (fun q2 => ?_))
      · have hT : (sqTT (nlg (zno S n)) (i' + 1) == ntm (zno S n)) = true := beq_iff_eq.mpr (by omega)
        refine gOk_bp (mX4_holders_ok hb hn hr i1) (fun r29 h29 => gOk_bp (mX1_isQuorum_ok hb.1.2.2.2.2.2.2 (h.G hn) h29) (fun r31 h31 => ?_))
        have h31 : r31 = if sqQb (zc S (zno S n)) (zHold (zno S n) n (i' + 1)) = true then 1 else 0 := h31
        by_cases w : sqQb (zc S (zno S n)) (zHold (zno S n) n (i' + 1)) = true
        · rw [if_pos w] at h31
          refine gOk_if (fun z => absurd (h31.symm.trans z) (by decide)) (fun _ => ?_)
          have hp : P (i' + 1) = true := by rw [hP, hT, w]; rfl
          rw [hp, if_pos rfl] at i3
          have FF : gFr (bnP (5 * q + n)) μ39 (w3 μ39 11 (5 * q + n) 9 x38) := gFr.w ⟨rfl, by omega⟩
          refine gOk_let (ih _ _ (i' - ncm (zno S n)) (by omega) ⟨i', rfl, hm1', Or.inr ⟨FF, ?_, by omega⟩⟩)
          rw [i3]
          exact h.1.node hn FF (hb.cm i1)
        · rw [if_neg w] at h31
          rw [Bool.not_eq_true] at w
          refine gOk_if (fun _ => skip (by rw [hP, w, Bool.and_false])) (fun z => absurd h31 z)
      · refine skip ?_
        have : (sqTT (nlg (zno S n)) (i' + 1) == ntm (zno S n)) = false := beq_eq_false_iff_ne.mpr (by omega)
        rw [hP, this, Bool.false_and]
  · have e3 : zno (zN S n (nCm (zno S n) kk)) n = nCm (zno S n) kk := zN_at _ _ _
    have h4 := (i3.2.1 n hn).1.2.2.2.2.1
    rw [e3] at h4
    have h4' : (μ39 11 (5 * q + n) 9).toInt = (kk : Int) := h4
    exact gOk_le i1 h4' (fun z => hj4 _ i2 i3) (fun z => absurd z (by omega))
theorem mX0_commit_ok (h : RY B μ q S) (hn : n < 5) (hr : nro (zno S n) = 2) : gOk (mX0_commit nc q (5 * q + n) μ) (fun μ' => gFr (bnP (5 * q + n)) μ μ' ∧ RB μ' q (zCom S n)) := by
  have hb := h.1.2.1 n hn
  have hlen := h.len hn
  unfold mX0_commit
  refine gOk_bp (mX1_lastIndex_ok hb.1.2.2.2.2.2.1 (by omega)) (fun r2 h2 => gOk_jq (P := fun μ3 => gFr (bnP (5 * q + n)) μ μ3 ∧ RB μ3 q (zN S n (nCm (zno S n) (zCmx S n (zno S n))))) (fun μ3 h3 => mX0_commit_fin h hn hr rfl μ3 h3.1 h3.2) (fun j4 hj4 => ?_))
  exact mX0_commit_loop h hn hr (P := fun i => sqTT (nlg (zno S n)) i == ntm (zno S n) && sqQb (zc S (zno S n)) (zHold (zno S n) n i)) (fun _ => rfl) (F := sqFind (fun i => sqTT (nlg (zno S n)) i == ntm (zno S n) && sqQb (zc S (zno S n)) (zHold (zno S n) n i)) (ncm (zno S n))) (fun i hi => sqFind_lo _ _ _ hi) (fun i hi => sqFind_up _ _ _ hi) rfl (fun μ3 f r => hj4 μ3 ⟨f, r⟩) h2
end SqClc2
