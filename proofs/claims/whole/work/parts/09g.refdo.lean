/-! The reference: committing. -/
theorem zN_zN (S : sqSt) (n : Nat) (N N' : sqN) : zN (zN S n N) n N' = zN S n N' := by
  unfold zN
  have : sqU1 (sqU1 (zno S) n N) n N' = sqU1 (zno S) n N' := by
    funext b
    unfold sqU1
    by_cases h : b = n
    · rw [if_pos h, if_pos h]
    · rw [if_neg h, if_neg h, if_neg h]
  show (zg S, zti S, zde S, zse S, zcu S, zst S, zwi S, sqU1 (sqU1 (zno S) n N) n N', zms S) = _
  rw [this]
theorem zTim_zN (S : sqSt) (n m T : Nat) (N : sqN) : zTim (zN S n N) m T = zTim S m T := by
  have e : zse (zN S n N) = zse S := rfl
  unfold zTim
  rw [e]
section SqRef7
variable {μ : gM} {S : sqSt} {B n k i : Nat} {a1 a2 a3 a4 a5 : Int32} {N : sqN} {A A' : Nat → Int32} {m : sqMs}
theorem zIL.cmx (I : zIL B S) (hn : n < 5) (hr : nro (zno S n) = 2) : zIL B (zN S n (nCm (zno S n) (zCmx S n (zno S n)))) := by
  obtain ⟨⟨h, I0⟩, L⟩ := I
  obtain ⟨c1, c2, c3⟩ := zCmx_ok I0 hn hr
  have a := I0.2.2.1 n hn
  have hld := a.2.2.2.2.1 hr
  refine ⟨⟨h, I0.node (sqNI.com a rfl rfl rfl rfl c1 c2 c3 (fun q => ⟨q, hld.2.2.2⟩) (fun q => ⟨q, (a.2.2.2.2.2 q).2.2.2⟩))⟩, L.node ((L.2.2.2.1 n hn).cm _)⟩
theorem zIL.fo (I : zIL B S) (hn : n < 5) : zIL B (zN S n (nRo (zno S n) 0)) := by
  obtain ⟨⟨h, I0⟩, L⟩ := I
  have a := I0.2.2.1 n hn
  have b := L.2.2.2.1 n hn
  exact ⟨⟨h, I0.node (sqNI.same a rfl rfl rfl ⟨Nat.le_refl _, a.2.2.2.1.1⟩ (Nat.le_refl _) (fun q => (by cases q)) (fun q => (by cases q)))⟩, L.node ⟨b.1, b.2.1, b.2.2.1, Nat.zero_le _, fun r => absurd rfl r, fun r => (by cases r), fun r => (by cases r)⟩⟩
theorem zIL.com (I : zIL B S) (hn : n < 5) (hr : nro (zno S n) = 2) : zIL (B + 1) (zCom S n) := by
  obtain ⟨⟨h, I0⟩, L⟩ := I
  obtain ⟨h1, c, -⟩ := zI.com I0 hn hr
  exact ⟨⟨h1, c⟩, (L.com hn (I0.G hn) hr).1⟩
theorem mX7_matching_ok (R : RZ B (μ 1 0) S) (hn : n < 5) (h1 : a1.toInt = (n : Int)) (hr : nro (zno S n) = 2) {ix : Nat} (h2 : a2.toInt = (ix : Int)) : gOk (mX7_matching a1 a2 μ) (fun r => r.toInt = (sqMk (zHold (zno S n) n ix) : Int)) := by
  have u4 := (R.1.2.1 n hn).2.2.2.2 hr
  have h32 : ∀ W : Nat → Bool, (Int32.ofNat (sqMk W)).toInt = (sqMk W : Int) := fun W => ti_nat (by have := sqMk_lt W; omega)
  unfold mX7_matching
  refine gOk_let (gOk_jon (gOk_fx2 (fun m x7 x8 => ∃ j : Nat, m = 5 - j ∧ j ≤ 5 ∧ x8.toInt = (j : Int) ∧ x7 = Int32.ofNat (sqMk (fun u => u == n || (decide (u < j) && decide (ix ≤ nmt (zno S n) u))))) ?_ 1000000 5 _ _ (by omega) ⟨0, rfl, by omega, rfl, ?_⟩))
  · rintro rec m x7 x8 ⟨j, rfl, j1, j2, rfl⟩ ih
    refine gOk_le (x := 5) (a := 5) rfl j2 (fun q => gOk_some ?_) (fun q => ?_)
    · have hj : j = 5 := by omega
      subst hj
      rw [h32, sqMk_ext (W := fun u => u == n || (decide (u < 5) && decide (ix ≤ nmt (zno S n) u))) (V := zHold (zno S n) n ix) (fun v hv => by
        unfold zHold
        rw [decide_eq_true hv, Bool.true_and])]
    · have hj5 : j < 5 := by omega
      have h8 := ti_add j2 (y := 1) (b := 1) rfl (by omega) (by omega)
      have next : ∀ x : Int32, x = Int32.ofNat (sqMk (fun u => u == n || (decide (u < j + 1) && decide (ix ≤ nmt (zno S n) u)))) → gOk (rec x (x8 + 1)) (fun r => r.toInt = (sqMk (zHold (zno S n) n ix) : Int)) := fun x hx => ih _ _ (5 - (j + 1)) (by omega) ⟨j + 1, rfl, by omega, by rw [h8]; omega, hx⟩
      have same : (n = j ∨ ¬ ix ≤ nmt (zno S n) j) → sqMk (fun u => u == n || (decide (u < j) && decide (ix ≤ nmt (zno S n) u))) = sqMk (fun u => u == n || (decide (u < j + 1) && decide (ix ≤ nmt (zno S n) u))) := by
        intro hc
        apply sqMk_ext
        intro v _
        by_cases hv : v = j
        · subst hv
          rcases hc with hc | hc
          · subst hc; simp
          · have : decide (ix ≤ nmt (zno S n) v) = false := decide_eq_false hc
            rw [this]; simp
        · have : decide (v < j + 1) = decide (v < j) := by
            by_cases z : v < j
            · rw [decide_eq_true z, decide_eq_true (by omega)]
            · rw [decide_eq_false z, decide_eq_false (by omega)]
          rw [this]
      have or0 : ∀ W : Nat → Bool, Int32.ofNat (sqMk W) ||| 0 = Int32.ofNat (sqMk W) := fun W => by
        have := i32_or ⟨sqMk W, sqMk_lt W⟩ ⟨0, by omega⟩
        rw [Nat.or_zero] at this
        exact this
      refine gOk_jon (gOk_jon (gOk_eq j2 h1 (fun q2 => ?_) (fun q2 => ?_)))
      · refine gOk_let (next _ ?_)
        rw [or0, same (Or.inl (by omega))]
      · have h18 : (18 + x8).toInt = ((18 + j : Nat) : Int) := by rw [ti_add (x := 18) (a := 18) rfl j2 (by omega) (by omega)]; omega
        obtain ⟨u1, u2, u3⟩ := u4 j hj5
        refine gOk_be (mX7_of_ok μ h1 h18 hn (by omega)) (gOk_let (gOk_let (next _ ?_)))
        by_cases w : rN (μ 1 0) n (18 + j) < a2
        · rw [if_pos w]
          have := Int32.lt_iff_toInt_lt.mp w
          rw [u2, h2] at this
          rw [or0, same (Or.inr (by omega))]
        · rw [if_neg w]
          have := Int.not_lt.mp (fun z => w (Int32.lt_iff_toInt_lt.mpr z))
          rw [u2, h2] at this
          rw [ti_of j2, i32_one ⟨j, hj5⟩]
          have hp : (2 : Nat) ^ j < 32 := Nat.lt_of_lt_of_le (Nat.pow_lt_pow_right (by omega) hj5) (by decide)
          have := i32_or ⟨sqMk (fun u => u == n || (decide (u < j) && decide (ix ≤ nmt (zno S n) u))), sqMk_lt _⟩ ⟨2 ^ j, hp⟩
          rw [this, sqMk_or _ j hj5]
          congr 1
          apply sqMk_ext
          intro v _
          by_cases hv : v = j
          · subst hv
            have : decide (ix ≤ nmt (zno S n) v) = true := decide_eq_true (by omega)
            rw [this]; simp
          · have h0 : (v == j) = false := beq_eq_false_iff_ne.mpr hv
            have : decide (v < j + 1) = decide (v < j) := by
              by_cases z : v < j
              · rw [decide_eq_true z, decide_eq_true (by omega)]
              · rw [decide_eq_false z, decide_eq_false (by omega)]
            rw [this, h0, Bool.or_false]
  · rw [ti_of h1, i32_one ⟨n, hn⟩]
    congr 1
    rw [← sqMk_one n hn]
    apply sqMk_ext
    intro v _
    simp
theorem sqFind_lo (P : Nat → Bool) (lo k : Nat) (h : k ≤ lo) : sqFind P lo k = lo := by
  cases k with
  | zero => rfl
  | succ k => unfold sqFind; rw [if_pos h]
theorem mX7_commit_ok (R : RZ B (μ 1 0) S) (hn : n < 5) (h1 : a1.toInt = (n : Int)) (hr : nro (zno S n) = 2) : gOk (mX7_commit a1 μ) (fun μ' => gF1 μ μ' ∧ RA (μ' 1 0) (zCom S n)) := by
  have hb := R.bd hn
  have hB := R.2.2
  have L := R.2.1.2
  have hll := (L.2.2.2.1 n hn).2.1
  have hR := R.1.2.1 n hn
  have hI := R.2.1.cmx hn hr
  have hcm := zCmx_le (S := S) (n := n) hb.1
  have fin : ∀ μ3 : gM, gF1 μ μ3 → RA (μ3 1 0) (zN S n (nCm (zno S n) (zCmx S n (zno S n)))) → gOk (gBp (mX7_configuration a1 μ3) fun r6 => gBp (mX7_of a1 4 μ3) fun r8 => gLet (α := Int32) (if r8 < r6 then 0 else 1) fun x9 => gBp (mX7_oldOf a1 r6 μ3) fun r14 => gJon (fun (u26 : Unit) => if x9 = 0 then some μ3 else gBp (mX7_newOf a1 r6 μ3) fun r18 => gBp (mX7_has r18 a1 μ3) fun r20 => if r20 = 0 then gBp (mX7_set a1 1 0 μ3) fun μ23 => gBp (mX7_resetTimer a1 μ23) fun μ25 => some μ25 else some μ3) fun j15 => if r14 = 0 then j15 () else if x9 = 0 then j15 () else gBp (mX7_of a1 12 μ3) fun r30 => if 24 ≤ r30 then some μ3 else gBp (mX7_of a1 2 μ3) fun r33 => gBp (mX7_newOf a1 r6 μ3) fun r35 => gBp (mX7_add a1 r33 2 r35 μ3) fun μ37 => some μ37) (fun μ' => gF1 μ μ' ∧ RA (μ' 1 0) (zCom S n)) := by
    intro μ3 F3 R3
    unfold zCom
    generalize hk : zCmx S n (zno S n) = k at *
    have RZ3 : RZ B (μ3 1 0) (zN S n (nCm (zno S n) k)) := ⟨R3, hI, hB⟩
    have e3 : zno (zN S n (nCm (zno S n) k)) n = nCm (zno S n) k := zN_at _ _ _
    have hG := RZ3.G hn
    have hR3 := R3.2.1 n hn
    rw [e3] at hR3
    obtain ⟨⟨r1, r2, r3, r4, r5, r6, r7, r8, r9, r10, r11, r12⟩, -⟩ := hR3
    have r4' : (rN (μ3 1 0) n 4).toInt = (k : Int) := r4
    have r10' : (rN (μ3 1 0) n 12).toInt = ((nlg (zno S n)).length : Int) - nbs (zno S n) := r10
    have r2' : (rN (μ3 1 0) n 2).toInt = ntm (zno S n) := r2
    have hc := mX7_configuration_ok RZ3 hn h1
    rw [e3] at hc
    refine gOk_bp hc (fun r6' h6 => ?_)
    have h6' : r6'.toInt = ((max (nbs (zno S n)) (sqCI (nlg (zno S n))) : Nat) : Int) := h6
    obtain ⟨x1, x2⟩ := mX7_cfg_ok RZ3 hn h1 (a2 := r6') (by rw [e3]; exact h6)
    rw [e3] at x1 x2 hG
    have x1' : gOk (mX7_oldOf a1 r6' μ3) (fun r => r.toInt = ((zc S (zno S n)).1 : Int)) := x1
    have x2' : gOk (mX7_newOf a1 r6' μ3) (fun r => r.toInt = ((zc S (zno S n)).2 : Int)) := x2
    have hG' : sqG (zc S (zno S n)) := hG
    refine gOk_be (mX7_of_ok μ3 h1 (k := 4) rfl hn (by omega)) (gOk_lee (fun x9 h9 => ?_))
    have hx9 : (x9 = 0 ↔ ¬ sqCI (nlg (zno S n)) ≤ k) := by
      rw [h9]
      by_cases w : rN (μ3 1 0) n 4 < r6'
      · rw [if_pos w]
        have := Int32.lt_iff_toInt_lt.mp w
        rw [r4', h6'] at this
        exact ⟨fun _ => by omega, fun _ => rfl⟩
      · rw [if_neg w]
        have := Int.not_lt.mp (fun z => w (Int32.lt_iff_toInt_lt.mpr z))
        rw [r4', h6'] at this
        exact ⟨fun z => absurd z (by decide), fun z => absurd (by omega) z⟩
    refine gOk_bp x1' (fun r14 h14 => gOk_jon ?_)
    by_cases hci : sqCI (nlg (zno S n)) ≤ k
    · rw [if_pos hci]
      have h9n : ¬ x9 = 0 := fun z => hx9.mp z hci
      refine gOk_eq h14 (y := 0) (b := 0) rfl (fun q => ?_) (fun q => ?_)
      · rw [if_neg (show ¬ (zc S (zno S n)).1 ≠ 0 by omega)]
        refine gOk_if (fun z => absurd z h9n) (fun _ => gOk_bp x2' (fun r18 h18 => gOk_bp (mX7_has_ok μ3 hG'.2.2 hn h18 h1) (fun r20 h20 => ?_)))
        by_cases w : (zc S (zno S n)).2.testBit n = true
        · rw [if_pos w] at h20 ⊢
          refine gOk_if (fun z => absurd (h20.symm.trans z) (by decide)) (fun _ => gOk_some ⟨F3, R3⟩)
        · rw [if_neg w] at h20 ⊢
          refine gOk_if (fun _ => ?_) (fun z => absurd h20 z)
          refine gOk_be (mX7_set_ok μ3 h1 (k := 1) rfl hn (by omega)) ?_
          have R4 : RA (w3 μ3 1 0 (116 + 100 * n + 1) 0 1 0) (zN (zN S n (nCm (zno S n) k)) n (nRo (nCm (zno S n) k) 0)) := by
            rw [w3_10]
            have := R3.2.1 n hn
            rw [e3] at this
            exact R3.nd1 hI hn (by omega) this.fo
          have Z4 := hI.fo hn
          rw [e3] at Z4
          refine gOk_bp (mX7_resetTimer_ok (B := B) ⟨R4, Z4, hB⟩ hn h1) (fun μ25 h25 => gOk_some ⟨F3.tr (gF1.w.tr h25.1), ?_⟩)
          have h2 := h25.2
          rw [zN_at, zN_zN, zN_zN, zTim_zN, zTim_zN] at h2
          have et : ntm (nRo (nCm (zno S n) k) 0) = ntm (zno S n) := rfl
          rw [et] at h2
          exact h2
      · rw [if_pos (show (zc S (zno S n)).1 ≠ 0 by omega)]
        refine gOk_if (fun z => absurd z h9n) (fun _ => ?_)
        refine gOk_be (mX7_of_ok μ3 h1 (k := 12) rfl hn (by omega)) (gOk_le (x := 24) (a := 24) rfl r10' (fun z => ?_) (fun z => ?_))
        · rw [if_neg (by omega)]
          exact gOk_some ⟨F3, R3⟩
        · rw [if_pos (by omega)]
          refine gOk_be (mX7_of_ok μ3 h1 (k := 2) rfl hn (by omega)) (gOk_bp x2' (fun r35 h35 => ?_))
          have hlt : (nlg (zno (zN S n (nCm (zno S n) k)) n)).length < nbs (zno (zN S n (nCm (zno S n) k)) n) + 24 := by
            rw [e3]; show (nlg (zno S n)).length < nbs (zno S n) + 24; omega
          refine gOk_bp (mX7_add_ok RZ3 hn h1 hlt (e := (ntm (zno S n), 2, Int32.ofNat (zc S (zno S n)).2)) r2' rfl (ti_of h35)) (fun μ37 h37 => gOk_some ⟨F3.tr h37.1, ?_⟩)
          have h2 := h37.2
          rw [e3, zN_zN] at h2
          exact h2
    · rw [if_neg hci]
      have h90 : x9 = 0 := hx9.mpr hci
      refine gOk_if (fun _ => gOk_if (fun _ => gOk_some ⟨F3, R3⟩) (fun z => absurd h90 z)) (fun _ => gOk_if (fun _ => gOk_if (fun _ => gOk_some ⟨F3, R3⟩) (fun z => absurd h90 z)) (fun z => absurd h90 z))
  unfold mX7_commit
  refine gOk_bp (mX7_last_ok R.1 L hB hn h1) (fun r2 h2 => gOk_jp (γ := gM) (fun μ3 => gF1 μ μ3 ∧ RA (μ3 1 0) (zN S n (nCm (zno S n) (zCmx S n (zno S n))))) _ (fun μ3 h => fin μ3 h.1 h.2) (fun j4 hj4 => ?_))
  refine gOk_fx2 (fun m (x38 : Int32) (μ39 : gM) => ∃ i : Nat, m = i - ncm (zno S n) ∧ x38.toInt = (i : Int) ∧ ((μ39 = μ ∧ i ≤ (nlg (zno S n)).length ∧ zCmx S n (zno S n) = sqFind (fun i => sqTT (nlg (zno S n)) i == ntm (zno S n) && sqQb (zc S (zno S n)) (zHold (zno S n) n i)) (ncm (zno S n)) i) ∨ (gF1 μ μ39 ∧ RA (μ39 1 0) (zN S n (nCm (zno S n) (zCmx S n (zno S n)))) ∧ i ≤ zCmx S n (zno S n)))) ?_ 1000000 ((nlg (zno S n)).length - ncm (zno S n)) _ _ (by omega) ⟨_, rfl, h2, Or.inl ⟨rfl, Nat.le_refl _, rfl⟩⟩
  rintro rec m x38 μ39 ⟨i, rfl, i1, i2⟩ ih
  rcases i2 with ⟨rfl, i2, i3⟩ | ⟨i2, i3, i4⟩
  · refine gOk_be (mX7_of_ok μ39 h1 (k := 4) rfl hn (by omega)) (gOk_le i1 hR.1.2.2.2.1 (fun q => ?_) (fun q => ?_))
    · refine hj4 _ ⟨gF1.rf, ?_⟩
      rw [sqFind_lo _ _ _ (by omega)] at i3
      rw [i3]
      exact R.1.nd R.2.1 hn (fun _ _ => rfl) hR
    · have hm1 := ti_add i1 (y := -1) (b := -1) rfl (by omega) (by omega)
      obtain ⟨i', hi'⟩ : ∃ i', i = i' + 1 := ⟨i - 1, by omega⟩
      have hm1' : (x38 + -1).toInt = (i' : Int) := by rw [hm1]; omega
      have i3' : zCmx S n (zno S n) = if (sqTT (nlg (zno S n)) i == ntm (zno S n) && sqQb (zc S (zno S n)) (zHold (zno S n) n i)) = true then i else sqFind (fun i => sqTT (nlg (zno S n)) i == ntm (zno S n) && sqQb (zc S (zno S n)) (zHold (zno S n) n i)) (ncm (zno S n)) i' := by
        rw [i3, hi']
        conv => lhs; unfold sqFind
        rw [if_neg (by omega)]
      have skip : (sqTT (nlg (zno S n)) i == ntm (zno S n) && sqQb (zc S (zno S n)) (zHold (zno S n) n i)) = false → gOk (rec (x38 + -1) μ39) (fun μ' => gF1 μ39 μ' ∧ RA (μ' 1 0) (zCom S n)) := fun hf => by
        rw [hf, if_neg (by decide)] at i3'
        exact ih _ _ (i' - ncm (zno S n)) (by omega) ⟨i', rfl, hm1', Or.inl ⟨rfl, by omega, i3'⟩⟩
      refine gOk_bp (mX7_termAt_ok R.1 L hB hn h1 i1 (by omega) i2) (fun r45 h45 => gOk_be (mX7_of_ok μ39 h1 (k := 2) rfl hn (by omega)) (gOk_eq h45 hR.1.2.1 (fun q2 => ?_) (fun q2 => ?_)))
      · have hT : (sqTT (nlg (zno S n)) i == ntm (zno S n)) = true := beq_iff_eq.mpr (by omega)
        refine gOk_bp (mX7_matching_ok R hn h1 hr i1) (fun r50 h50 => gOk_bp (mX7_isQuorum_ok R hn h1 h50) (fun r52 h52 => ?_))
        by_cases w : sqQb (zc S (zno S n)) (zHold (zno S n) n i) = true
        · rw [if_pos w] at h52
          refine gOk_if (fun z => absurd (h52.symm.trans z) (by decide)) (fun _ => ?_)
          rw [hT, w, if_pos rfl] at i3'
          refine gOk_be (mX7_set_ok μ39 h1 (k := 4) rfl hn (by omega)) (ih _ _ (i' - ncm (zno S n)) (by omega) ⟨i', rfl, hm1', Or.inr ⟨gF1.w, ?_, by omega⟩⟩)
          rw [w3_10, i3']
          exact R.1.nd1 R.2.1 hn (by omega) (hR.cm i1)
        · rw [if_neg w] at h52
          rw [Bool.not_eq_true] at w
          refine gOk_if (fun _ => skip (by rw [w, Bool.and_false])) (fun z => absurd h52 z)
      · refine skip ?_
        have : (sqTT (nlg (zno S n)) i == ntm (zno S n)) = false := beq_eq_false_iff_ne.mpr (by omega)
        rw [this, Bool.false_and]
  · have e3 : zno (zN S n (nCm (zno S n) (zCmx S n (zno S n)))) n = nCm (zno S n) (zCmx S n (zno S n)) := zN_at _ _ _
    have h4 := (i3.2.1 n hn).1.2.2.2.1
    rw [e3] at h4
    have h4' : (rN (μ39 1 0) n 4).toInt = (zCmx S n (zno S n) : Int) := h4
    refine gOk_be (mX7_of_ok μ39 h1 (k := 4) rfl hn (by omega)) (gOk_le i1 h4' (fun q => hj4 _ ⟨i2, i3⟩) (fun q => absurd q (by omega)))
end SqRef7
