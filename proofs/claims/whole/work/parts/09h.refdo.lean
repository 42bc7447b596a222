/-! The reference: committing, the end. -/
section SqRef8
variable {μ : gM} {S : sqSt} {B n k i : Nat} {a1 a2 a3 a4 a5 : Int32} {N : sqN} {A A' : Nat → Int32} {m : sqMs}
theorem sqFind_lo (P : Nat → Bool) (lo k : Nat) (h : k ≤ lo) : sqFind P lo k = lo := by
  cases k with
  | zero => rfl
  | succ k => unfold sqFind; rw [if_pos h]
theorem mX7_commit_fin (R : RZ B (μ 1 0) S) (hn : n < 5) (h1 : a1.toInt = (n : Int)) (hr : nro (zno S n) = 2) : ∀ μ3 : gM, gF1 μ μ3 → RA (μ3 1 0) (zN S n (nCm (zno S n) (zCmx S n (zno S n)))) → gOk (gBp (mX7_configuration a1 μ3) fun r6 => gBp (mX7_of a1 4 μ3) fun r8 => gLet (α := Int32) (if r8 < r6 then 0 else 1) fun x9 => gBp (mX7_oldOf a1 r6 μ3) fun r14 => gJon (fun (u26 : Unit) => if x9 = 0 then some μ3 else gBp (mX7_newOf a1 r6 μ3) fun r18 => gBp (mX7_has r18 a1 μ3) fun r20 => if r20 = 0 then gBp (mX7_set a1 1 0 μ3) fun μ23 => gBp (mX7_resetTimer a1 μ23) fun μ25 => some μ25 else some μ3) fun j15 => if r14 = 0 then j15 () else if x9 = 0 then j15 () else gBp (mX7_of a1 12 μ3) fun r30 => if 24 ≤ r30 then some μ3 else gBp (mX7_of a1 2 μ3) fun r33 => gBp (mX7_newOf a1 r6 μ3) fun r35 => gBp (mX7_add a1 r33 2 r35 μ3) fun μ37 => some μ37) (fun μ' => gF1 μ μ' ∧ RA (μ' 1 0) (zCom S n)) := by
  have hb := R.bd hn
  have hB := R.2.2
  have hI := R.2.1.cmx hn hr
  have hcm := zCmx_le (S := S) (n := n) hb.1
  intro μ3 F3 R3
  unfold zCom
  generalize hk : zCmx S n (zno S n) = k at *
  have RZ3 : RZ B (μ3 1 0) (zN S n (nCm (zno S n) k)) := ⟨R3, hI, hB⟩
  have e3 : zno (zN S n (nCm (zno S n) k)) n = nCm (zno S n) k := zN_at _ _ _
  have hG := RZ3.G hn
  have hR3 := R3.2.1 n hn
  rw [e3] at hR3
  obtain ⟨⟨r1, r2, r3, r4, r5, r6, r7, r8, r9, r10, r11, r12⟩, -⟩ := hR3
  have r4' : (rN (μ3 1 0) n 4).toInt = (k : Int) := r4
  have r10' : (rN (μ3 1 0) n 12).toInt = ((nlg (zno S n)).length : Int) - nbs (zno S n) := r10
  have r2' : (rN (μ3 1 0) n 2).toInt = ntm (zno S n) := r2
  have hc := mX7_configuration_ok RZ3 hn h1
  rw [e3] at hc
  refine gOk_bp hc (fun r6' h6 => ?_)
  have h6' : r6'.toInt = ((max (nbs (zno S n)) (sqCI (nlg (zno S n))) : Nat) : Int) := h6
  obtain ⟨x1, x2⟩ := mX7_cfg_ok RZ3 hn h1 (a2 := r6') (by rw [e3]; exact h6)
  rw [e3] at x1 x2 hG
  have x1' : gOk (mX7_oldOf a1 r6' μ3) (fun r => r.toInt = ((zc S (zno S n)).1 : Int)) := x1
  have x2' : gOk (mX7_newOf a1 r6' μ3) (fun r => r.toInt = ((zc S (zno S n)).2 : Int)) := x2
  have hG' : sqG (zc S (zno S n)) := hG
  refine gOk_be (mX7_of_ok μ3 h1 (k := 4) rfl hn (by omega)) (gOk_lee (fun x9 h9 => ?_))
  have hx9 : (x9 = 0 ↔ ¬ sqCI (nlg (zno S n)) ≤ k) := by
    rw [h9]
    by_cases w : rN (μ3 1 0) n 4 < r6'
    · rw [if_pos w]
      have := Int32.lt_iff_toInt_lt.mp w
      rw [r4', h6'] at this
      exact ⟨fun _ => by omega, fun _ => rfl⟩
    · rw [if_neg w]
      have := Int.not_lt.mp (fun z => w (Int32.lt_iff_toInt_lt.mpr z))
      rw [r4', h6'] at this
      exact ⟨fun z => absurd z (by decide), fun z => absurd (by omega) z⟩
  refine gOk_bp x1' (fun r14 h14 => gOk_jon ?_)
  by_cases hci : sqCI (nlg (zno S n)) ≤ k
  · rw [if_pos hci]
    have h9n : ¬ x9 = 0 := fun z => hx9.mp z hci
    refine gOk_eq h14 (y := 0) (b := 0) rfl (fun q => ?_) (fun q => ?_)
    · rw [if_neg (show ¬ (zc S (zno S n)).1 ≠ 0 by omega)]
      refine gOk_if (fun z => absurd z h9n) (fun _ => gOk_bp x2' (fun r18 h18 => gOk_bp (mX7_has_ok μ3 hG'.2.2 hn h18 h1) (fun r20 h20 => ?_)))
      by_cases w : (zc S (zno S n)).2.testBit n = true
      · rw [if_pos w] at h20 ⊢
        refine gOk_if (fun z => absurd (h20.symm.trans z) (by decide)) (fun _ => gOk_some ⟨F3, R3⟩)
      · rw [if_neg w] at h20 ⊢
        refine gOk_if (fun _ => ?_) (fun z => absurd h20 z)
        refine gOk_be (mX7_set_ok μ3 h1 (k := 1) rfl hn (by omega)) ?_
        have R4 : RA (w3 μ3 1 0 (116 + 100 * n + 1) 0 1 0) (zN (zN S n (nCm (zno S n) k)) n (nRo (nCm (zno S n) k) 0)) := by
          rw [w3_10]
          have := R3.2.1 n hn
          rw [e3] at this
          exact R3.nd1 hI hn (by omega) this.fo
        have Z4 := hI.fo hn
        rw [e3] at Z4
        refine gOk_bp (mX7_resetTimer_ok (B := B) ⟨R4, Z4, hB⟩ hn h1) (fun μ25 h25 => gOk_some ⟨F3.tr (gF1.w.tr h25.1), ?_⟩)
        have h2 := h25.2
        rw [zN_at, zN_zN, zN_zN, zTim_zN, zTim_zN] at h2
        have et : ntm (nRo (nCm (zno S n) k) 0) = ntm (zno S n) := rfl
        rw [et] at h2
        exact h2
    · rw [if_pos (show (zc S (zno S n)).1 ≠ 0 by omega)]
      refine gOk_if (fun z => absurd z h9n) (fun _ => ?_)
      refine gOk_be (mX7_of_ok μ3 h1 (k := 12) rfl hn (by omega)) (gOk_le (x := 24) (a := 24) rfl r10' (fun z => ?_) (fun z => ?_))
      · rw [if_neg (by omega)]
        exact gOk_some ⟨F3, R3⟩
      · rw [if_pos (by omega)]
        refine gOk_be (mX7_of_ok μ3 h1 (k := 2) rfl hn (by omega)) (gOk_bp x2' (fun r35 h35 => ?_))
        have hlt : (nlg (zno (zN S n (nCm (zno S n) k)) n)).length < nbs (zno (zN S n (nCm (zno S n) k)) n) + 24 := by
          rw [e3]; show (nlg (zno S n)).length < nbs (zno S n) + 24; omega
        refine gOk_bp (mX7_add_ok RZ3 hn h1 hlt (e := (ntm (zno S n), 2, Int32.ofNat (zc S (zno S n)).2)) r2' rfl (ti_of h35)) (fun μ37 h37 => gOk_some ⟨F3.tr h37.1, ?_⟩)
        have h2 := h37.2
        rw [e3, zN_zN] at h2
        exact h2
  · rw [if_neg hci]
    have h90 : x9 = 0 := hx9.mpr hci
    refine gOk_if (fun _ => gOk_if (fun _ => gOk_some ⟨F3, R3⟩) (fun z => absurd h90 z)) (fun _ => gOk_if (fun _ => gOk_if (fun _ => gOk_some ⟨F3, R3⟩) (fun z => absurd h90 z)) (fun z => absurd h90 z))
end SqRef8
