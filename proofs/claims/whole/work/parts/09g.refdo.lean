/-! The reference: committing. -/
theorem zN_zN (S : sqSt) (n : Nat) (N N' : sqN) : zN (zN S n N) n N' = zN S n N' := by
  unfold zN
  have : sqU1 (sqU1 (zno S) n N) n N' = sqU1 (zno S) n N' := by
    funext b
    unfold sqU1
    by_cases h : b = n
    · rw [if_pos h, if_pos h]
    · rw [if_neg h, if_neg h, if_neg h]
  show (zg S, zti S, zde S, zse S, zcu S, zst S, zwi S, sqU1 (sqU1 (zno S) n N) n N', zms S) = _
  rw [this]
theorem zTim_zN (S : sqSt) (n m T : Nat) (N : sqN) : zTim (zN S n N) m T = zTim S m T := by
  have e : zse (zN S n N) = zse S := rfl
  unfold zTim
  rw [e]
section SqRef7
variable {μ : gM} {S : sqSt} {B n k i : Nat} {a1 a2 a3 a4 a5 : Int32} {N : sqN} {A A' : Nat → Int32} {m : sqMs}
theorem zIL.cmx (I : zIL B S) (hn : n < 5) (hr : nro (zno S n) = 2) : zIL B (zN S n (nCm (zno S n) (zCmx S n (zno S n)))) := by
  obtain ⟨⟨h, I0⟩, L⟩ := I
  obtain ⟨c1, c2, c3⟩ := zCmx_ok I0 hn hr
  have a := I0.2.2.1 n hn
  have hld := a.2.2.2.2.1 hr
  refine ⟨⟨h, I0.node (sqNI.com a rfl rfl rfl rfl c1 c2 c3 (fun q => ⟨q, hld.2.2.2⟩) (fun q => ⟨q, (a.2.2.2.2.2 q).2.2.2⟩))⟩, L.node ((L.2.2.2.1 n hn).cm _)⟩
theorem zIL.fo (I : zIL B S) (hn : n < 5) : zIL B (zN S n (nRo (zno S n) 0)) := by
  obtain ⟨⟨h, I0⟩, L⟩ := I
  have a := I0.2.2.1 n hn
  have b := L.2.2.2.1 n hn
  exact ⟨⟨h, I0.node (sqNI.same a rfl rfl rfl ⟨Nat.le_refl _, a.2.2.2.1.1⟩ (Nat.le_refl _) (fun q => (by cases q)) (fun q => (by cases q)))⟩, L.node ⟨b.1, b.2.1, b.2.2.1, Nat.zero_le _, fun r => absurd rfl r, fun r => (by cases r), fun r => (by cases r)⟩⟩
theorem zIL.com (I : zIL B S) (hn : n < 5) (hr : nro (zno S n) = 2) : zIL (B + 1) (zCom S n) := by
  obtain ⟨⟨h, I0⟩, L⟩ := I
  obtain ⟨h1, c, -⟩ := zI.com I0 hn hr
  exact ⟨⟨h1, c⟩, (L.com hn (I0.G hn) hr).1⟩
theorem mX7_matching_ok (R : RZ B (μ 1 0) S) (hn : n < 5) (h1 : a1.toInt = (n : Int)) (hr : nro (zno S n) = 2) {ix : Nat} (h2 : a2.toInt = (ix : Int)) : gOk (mX7_matching a1 a2 μ) (fun r => r.toInt = (sqMk (zHold (zno S n) n ix) : Int)) := by
  have u4 := (R.1.2.1 n hn).2.2.2.2 hr
  have h32 : ∀ W : Nat → Bool, (Int32.ofNat (sqMk W)).toInt = (sqMk W : Int) := fun W => ti_nat (by have := sqMk_lt W; omega)
  unfold mX7_matching
  refine gOk_let (gOk_jon (gOk_fx2 (fun m x7 x8 => ∃ j : Nat, m = 5 - j ∧ j ≤ 5 ∧ x8.toInt = (j : Int) ∧ x7 = Int32.ofNat (sqMk (fun u => u == n || (decide (u < j) && decide (ix ≤ nmt (zno S n) u))))) ?_ 1000000 5 _ _ (by omega) ⟨0, rfl, by omega, rfl, ?_⟩))
  · rintro rec m x7 x8 ⟨j, rfl, j1, j2, rfl⟩ ih
    refine gOk_le (x := 5) (a := 5) rfl j2 (fun q => gOk_some ?_) (fun q => ?_)
    · have hj : j = 5 := by omega
      subst hj
      rw [h32, sqMk_ext (W := fun u => u == n || (decide (u < 5) && decide (ix ≤ nmt (zno S n) u))) (V := zHold (zno S n) n ix) (fun v hv => by
        unfold zHold
        rw [decide_eq_true hv, Bool.true_and])]
    · have hj5 : j < 5 := by omega
      have h8 := ti_add j2 (y := 1) (b := 1) rfl (by omega) (by omega)
      have next : ∀ x : Int32, x = Int32.ofNat (sqMk (fun u => u == n || (decide (u < j + 1) && decide (ix ≤ nmt (zno S n) u)))) → gOk (rec x (x8 + 1)) (fun r => r.toInt = (sqMk (zHold (zno S n) n ix) : Int)) := fun x hx => ih _ _ (5 - (j + 1)) (by omega) ⟨j + 1, rfl, by omega, by rw [h8]; omega, hx⟩
      have same : (n = j ∨ ¬ ix ≤ nmt (zno S n) j) → sqMk (fun u => u == n || (decide (u < j) && decide (ix ≤ nmt (zno S n) u))) = sqMk (fun u => u == n || (decide (u < j + 1) && decide (ix ≤ nmt (zno S n) u))) := by
        intro hc
        apply sqMk_ext
        intro v _
        by_cases hv : v = j
        · subst hv
          rcases hc with hc | hc
          · subst hc; simp
          · have : decide (ix ≤ nmt (zno S n) v) = false := decide_eq_false hc
            rw [this]; simp
        · have : decide (v < j + 1) = decide (v < j) := by
            by_cases z : v < j
            · rw [decide_eq_true z, decide_eq_true (by omega)]
            · rw [decide_eq_false z, decide_eq_false (by omega)]
          rw [this]
      have or0 : ∀ W : Nat → Bool, Int32.ofNat (sqMk W) ||| 0 = Int32.ofNat (sqMk W) := fun W => by
        have := i32_or ⟨sqMk W, sqMk_lt W⟩ ⟨0, by omega⟩
        rw [Nat.or_zero] at this
        exact this
      refine gOk_jon (gOk_jon (gOk_eq j2 h1 (fun q2 => ?_) (fun q2 => ?_)))
      · refine gOk_let (next _ ?_)
        rw [or0, same (Or.inl (by omega))]
      · have h18 : (18 + x8).toInt = ((18 + j : Nat) : Int) := by rw [ti_add (x := 18) (a := 18) rfl j2 (by omega) (by omega)]; omega
        obtain ⟨u1, u2, u3⟩ := u4 j hj5
        refine gOk_be (mX7_of_ok μ h1 h18 hn (by omega)) (gOk_let (gOk_let (next _ ?_)))
        by_cases w : rN (μ 1 0) n (18 + j) < a2
        · rw [if_pos w]
          have := Int32.lt_iff_toInt_lt.mp w
          rw [u2, h2] at this
          rw [or0, same (Or.inr (by omega))]
        · rw [if_neg w]
          have := Int.not_lt.mp (fun z => w (Int32.lt_iff_toInt_lt.mpr z))
          rw [u2, h2] at this
          rw [ti_of j2, i32_one ⟨j, hj5⟩]
          have hp : (2 : Nat) ^ j < 32 := Nat.lt_of_lt_of_le (Nat.pow_lt_pow_right (by omega) hj5) (by decide)
          have := i32_or ⟨sqMk (fun u => u == n || (decide (u < j) && decide (ix ≤ nmt (zno S n) u))), sqMk_lt _⟩ ⟨2 ^ j, hp⟩
          rw [this, sqMk_or _ j hj5]
          congr 1
          apply sqMk_ext
          intro v _
          by_cases hv : v = j
          · subst hv
            have : decide (ix ≤ nmt (zno S n) v) = true := decide_eq_true (by omega)
            rw [this]; simp
          · have h0 : (v == j) = false := beq_eq_false_iff_ne.mpr hv
            have : decide (v < j + 1) = decide (v < j) := by
              by_cases z : v < j
              · rw [decide_eq_true z, decide_eq_true (by omega)]
              · rw [decide_eq_false z, decide_eq_false (by omega)]
            rw [this, h0, Bool.or_false]
  · rw [ti_of h1, i32_one ⟨n, hn⟩]
    congr 1
    rw [← sqMk_one n hn]
    apply sqMk_ext
    intro v _
    simp
end SqRef7
