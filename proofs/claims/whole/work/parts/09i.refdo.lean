/-! The reference: committing, the whole. -/
theorem ti_m1 : (-1 : Int32).toInt = -1 := by decide +kernel
theorem ti_pred {x : Int32} {i : Nat} (h : x.toInt = ((i + 1 : Nat) : Int)) : ∃ y, x + -1 = y ∧ y.toInt = (i : Int) := by
  have h3 := ti_hi x
  refine ⟨_, rfl, (ti_add h ti_m1 ?_ ?_).trans ?_⟩
  · omega
  · omega
  · omega
theorem nCm_id (N : sqN) : nCm N (ncm N) = N := rfl
theorem sqFind_up (P : Nat → Bool) (lo i : Nat) (h : lo < i + 1) : sqFind P lo (i + 1) = if P (i + 1) = true then i + 1 else sqFind P lo i := by
  rw [sqFind, if_neg (Nat.not_le.mpr h)]
section SqRef9
variable {μ : gM} {S : sqSt} {B n k i : Nat} {a1 a2 a3 a4 a5 : Int32} {N : sqN} {A A' : Nat → Int32} {m : sqMs}
theorem mX7_commit_loop (R : RZ B (μ 1 0) S) (hn : n < 5) (h1 : a1.toInt = (n : Int)) (hr : nro (zno S n) = 2) {P : Nat → Bool} (hP : ∀ i, P i = (sqTT (nlg (zno S n)) i == ntm (zno S n) && sqQb (zc S (zno S n)) (zHold (zno S n) n i))) {kk : Nat} {F : Nat → Nat} (hlo : ∀ i, i ≤ ncm (zno S n) → F i = ncm (zno S n)) (hup : ∀ i, ncm (zno S n) < i + 1 → F (i + 1) = if P (i + 1) = true then i + 1 else F i) (hkk : kk = F (nlg (zno S n)).length) {Q : gM → Prop} {j4 : gM → Option gM} (hj4 : ∀ μ3, gF1 μ μ3 → RA (μ3 1 0) (zN S n (nCm (zno S n) kk)) → gOk (j4 μ3) Q) {r2 : Int32} (h2 : r2.toInt = (nlg (zno S n)).length) : gOk (gFx2 (fun rec40 (x38 : Int32) (μ39 : gM) =>
      gBp (mX7_of a1 4 μ39) fun r42 =>
      if x38 ≤ r42 then
        j4 μ39
      else
        gBp (mX7_termAt a1 x38 μ39) fun r45 =>
        gBp (mX7_of a1 2 μ39) fun r47 =>
        if r45 = r47 then
          gBp (mX7_matching a1 x38 μ39) fun r50 =>
          gBp (mX7_isQuorum a1 r50 μ39) fun r52 =>
          if r52 = 0 then
            rec40 (x38 + (-1)) μ39
          else
            gBp (mX7_set a1 4 x38 μ39) fun μ55 =>
            rec40 (x38 + (-1)) μ55
        else
          rec40 (x38 + (-1)) μ39) 1000000 r2 μ) Q := by
  have hb := R.bd hn
  have hB := R.2.2
  have L := R.2.1.2
  have hll := (L.2.2.2.1 n hn).2.1
  have hR := R.1.2.1 n hn
  refine gOk_fx2 (fun m (x38 : Int32) (μ39 : gM) => ∃ i : Nat, m = i - ncm (zno S n) ∧ x38.toInt = (i : Int) ∧ ((μ39 = μ ∧ i ≤ (nlg (zno S n)).length ∧ kk = F i) ∨ (gF1 μ μ39 ∧ RA (μ39 1 0) (zN S n (nCm (zno S n) kk)) ∧ i ≤ kk))) ?_ 1000000 ((nlg (zno S n)).length - ncm (zno S n)) _ _ (by omega) ⟨_, rfl, h2, Or.inl ⟨rfl, Nat.le_refl _, hkk⟩⟩
  intro rec m x38 μ39 hI ih
  obtain ⟨i, hm, i1, i2⟩ := hI
  subst hm
  rcases i2 with ⟨he, i2, i3⟩ | ⟨i2, i3, i4⟩
  · subst he
    refine gOk_be (mX7_of_ok μ39 h1 (k := 4) rfl hn (by omega)) (gOk_le i1 hR.1.2.2.2.1 (fun q => ?_) (fun q => ?_))
    · have hk2 : kk = ncm (zno S n) := i3.trans (hlo i (by omega))
      refine hj4 _ gF1.rf ?_
      rw [hk2, nCm_id]
      exact R.1.nd R.2.1 hn (fun _ _ => rfl) hR
    · obtain ⟨i', hi'⟩ : ∃ i', i = i' + 1 := ⟨i - 1, by omega⟩
      subst hi'
      obtain ⟨y, hye, hm1'⟩ := ti_pred i1
      rw [hye]
      rw [hup i' (by omega)] at i3
      have skip : P (i' + 1) = false → gOk (rec y μ39) Q := fun hf => by
        rw [hf, if_neg (by decide)] at i3
        exact ih _ _ (i' - ncm (zno S n)) (by omega) ⟨i', rfl, hm1', Or.inl ⟨rfl, by omega, i3⟩⟩
      refine gOk_bp (mX7_termAt_ok R.1 L hB hn h1 i1 (by omega) i2) (fun r45 h45 => gOk_be (mX7_of_ok μ39 h1 (k := 2) rfl hn (by omega)) (gOk_eq h45 hR.1.2.1 (fun q2 => ?_) (fun q2 => ?_)))
      · have hT : (sqTT (nlg (zno S n)) (i' + 1) == ntm (zno S n)) = true := beq_iff_eq.mpr (by omega)
        refine gOk_bp (mX7_matching_ok R hn h1 hr i1) (fun r50 h50 => gOk_bp (mX7_isQuorum_ok R hn h1 h50) (fun r52 h52 => ?_))
        by_cases w : sqQb (zc S (zno S n)) (zHold (zno S n) n (i' + 1)) = true
        · rw [if_pos w] at h52
          refine gOk_if (fun z => absurd (h52.symm.trans z) (by decide)) (fun _ => ?_)
          have hp : P (i' + 1) = true := by rw [hP, hT, w]; rfl
          rw [hp, if_pos rfl] at i3
          refine gOk_be (mX7_set_ok μ39 h1 (k := 4) rfl hn (by omega)) (ih _ _ (i' - ncm (zno S n)) (by omega) ⟨i', rfl, hm1', Or.inr ⟨gF1.w, ?_, by omega⟩⟩)
          rw [w3_10, i3]
          exact R.1.nd1 R.2.1 hn (by omega) (hR.cm i1)
        · rw [if_neg w] at h52
          rw [Bool.not_eq_true] at w
          refine gOk_if (fun _ => skip (by rw [hP, w, Bool.and_false])) (fun z => absurd h52 z)
      · refine skip ?_
        have : (sqTT (nlg (zno S n)) (i' + 1) == ntm (zno S n)) = false := beq_eq_false_iff_ne.mpr (by omega)
        rw [hP, this, Bool.false_and]
  · have e3 : zno (zN S n (nCm (zno S n) kk)) n = nCm (zno S n) kk := zN_at _ _ _
    have h4 := (i3.2.1 n hn).1.2.2.2.1
    rw [e3] at h4
    have h4' : (rN (μ39 1 0) n 4).toInt = (kk : Int) := h4
    exact gOk_be (mX7_of_ok μ39 h1 (k := 4) rfl hn (by omega)) (gOk_le i1 h4' (fun q => hj4 _ i2 i3) (fun q => absurd q (by omega)))
theorem mX7_commit_ok (R : RZ B (μ 1 0) S) (hn : n < 5) (h1 : a1.toInt = (n : Int)) (hr : nro (zno S n) = 2) : gOk (mX7_commit a1 μ) (fun μ' => gF1 μ μ' ∧ RA (μ' 1 0) (zCom S n)) := by
  have fin := mX7_commit_fin R hn h1 hr
  unfold mX7_commit
  refine gOk_bp (mX7_last_ok R.1 R.2.1.2 R.2.2 hn h1) (fun r2 h2 => gOk_jp (γ := gM) (fun μ3 => gF1 μ μ3 ∧ RA (μ3 1 0) (zN S n (nCm (zno S n) (zCmx S n (zno S n))))) _ (fun μ3 h => fin μ3 h.1 h.2) (fun j4 hj4 => ?_))
  exact mX7_commit_loop R hn h1 hr (P := fun i => sqTT (nlg (zno S n)) i == ntm (zno S n) && sqQb (zc S (zno S n)) (zHold (zno S n) n i)) (fun _ => rfl) (F := sqFind (fun i => sqTT (nlg (zno S n)) i == ntm (zno S n) && sqQb (zc S (zno S n)) (zHold (zno S n) n i)) (ncm (zno S n))) (fun i hi => sqFind_lo _ _ _ hi) (fun i hi => sqFind_up _ _ _ hi) rfl (fun μ3 f r => hj4 μ3 ⟨f, r⟩) h2
end SqRef9
