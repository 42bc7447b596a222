/-! The reference's calls: restart, submit, messages, lose, statistic, winner. -/
section SqApi2
variable {μ : gM} {S : sqSt} {B n k i : Nat} {a1 a2 a3 a4 a5 : Int32} {N : sqN} {A A' : Nat → Int32} {m : sqMs} {h : sqH}
theorem RN.cmx {r : Nat → Int32} {g : Nat} (h : RN r g N) {c : Nat} {x : Int32} (hx : x.toInt = (c : Int)) : RN (upd r 4 x) g (nCm N c) := h.cm hx
theorem zIL.back (I : zIL B S) (hn : n < 5) (hu : nup (zno S n) = false) (x : Int32) : zIL B (zN S n (nTi (nCm (nUp (zno S n) true) (nbs (zno S n))) x)) := by
  obtain ⟨⟨h, I0⟩, L⟩ := I
  have b := L.2.2.2.1 n hn
  have hr : nro (zno S n) = 0 := Classical.byContradiction fun z => by have := b.2.2.2.2.1 z; rw [hu] at this; cases this
  refine ⟨⟨h, I0.back1 hn hr x⟩, L.ndx hn rfl (N' := nTi (nCm (nUp (zno S n) true) (nbs (zno S n))) x) ⟨b.1, b.2.1, b.2.2.1, b.2.2.2.1, fun _ => rfl, fun r => ?_, fun r => ?_⟩ (Nat.le_refl _)⟩
  · have r' : nro (zno S n) = 1 := r
    rw [hr] at r'; cases r'
  · have r' : nro (zno S n) = 2 := r
    rw [hr] at r'; cases r'
theorem mX7_restart_x (R : RZ B (μ 1 0) S) (hn : n < 5) (h1 : a1.toInt = (n : Int)) (hu : nup (zno S n) = false) (x : Int32) (hx : ∀ μ10 : gM, μ10 1 0 2 = zse S → (rN (μ10 1 0) n 2).toInt = (ntm (zno S n) : Int) → gOk (mX7_resetTimer a1 μ10) (fun μ12 => μ12 = w3 μ10 1 0 (116 + 100 * n + 5) x)) : gOk (gBp (mX7_set a1 0 1 μ) fun μ22 => gBp (mX7_of a1 7 μ22) fun r24 => gBp (mX7_set a1 4 r24 μ22) fun μ26 => gBp (mX7_resetTimer a1 μ26) fun μ28 => gBp (mX7_last a1 μ28) fun r30 => some (r30, μ28)) (fun q => gF1 μ q.2 ∧ q.1.toInt = (nlg (zno S n)).length ∧ RZ B (q.2 1 0) (zN S n (nTi (nCm (nUp (zno S n) true) (nbs (zno S n))) x))) := by
  have hR := R.1.2.1 n hn
  have hb := R.bd hn
  have hll := (R.2.1.2.2.2.2.1 n hn).2.1
  have r7 := hR.1.2.2.2.2.1
  have hB := R.2.2
  refine gOk_be (mX7_set_ok μ h1 (k := 0) rfl hn (by omega)) (gOk_be (mX7_of_ok _ h1 (k := 7) rfl hn (by omega)) (gOk_be (mX7_set_ok _ h1 (k := 4) rfl hn (by omega)) ?_))
  refine gOk_bp (hx _ (by simp only [w3_10]; rw [upd_ne _ _ (by omega), upd_ne _ _ (by omega)]; exact R.1.1.2.2.1) (by simp only [w3_10]; rw [rN_upd, rN_upd, upd_ne _ _ (by omega), upd_ne _ _ (by omega)]; exact hR.1.2.1)) (fun μ28 h28 => ?_)
  have F28 : gF1 μ μ28 := by rw [h28]; exact gF1.w.tr (gF1.w.tr gF1.w)
  have R28 : RA (μ28 1 0) (zN S n (nTi (nCm (nUp (zno S n) true) (nbs (zno S n))) x)) := by
    rw [h28]
    simp only [w3_10]
    refine R.1.nd R.2.1 hn (fun k hk => by rw [upd_ne _ _ (by omega), upd_ne _ _ (by omega), upd_ne _ _ (by omega)]) ?_
    rw [rN_upd, rN_upd, rN_upd]
    exact ((hR.up0 (b := true) rfl).cm (c := nbs (zno S n)) (by rw [upd_ne _ _ (by omega)]; exact r7)).ti x
  have hz := R.2.1.back hn hu x
  refine gOk_bp (mX7_last_ok R28 hz.2 hB hn h1) (fun r30 h30 => gOk_some ⟨F28, ?_, R28, hz, hB⟩)
  rw [zN_at] at h30
  exact h30
theorem mX7_restart_ok (R : RZ B (μ 1 0) S) : gOk (mX7_restart a1 μ) (rPost μ B (zaBack S a1.toInt)) := by
  unfold mX7_restart zaBack zBack
  refine gOk_bp (mX7_isNode_ok μ a1) (fun r2 h2 => gOk_guard (fun q => ?_) (fun q => ?_))
  · have hc : 0 ≤ a1.toInt ∧ a1.toInt < 5 := Classical.byContradiction fun z => q (h2.2.mpr z)
    rw [if_neg (show ¬ ¬ (0 ≤ a1.toInt ∧ a1.toInt < 5) from fun z => z hc)]
    obtain ⟨n, hn, h1, he⟩ := nd_of hc
    rw [he]
    have R1 := R.th (k := 0)
    have hR := R1.1.2.1 n hn
    have r0 := hR.1.1
    refine gOk_be (mX7_of_ok _ h1 (k := 0) rfl hn (by omega)) (gOk_guard (fun q2 => ?_) (fun q2 => ?_))
    · have hu : nup (zno S n) = false := by
        cases z : nup (zno S n) with
        | false => rfl
        | true => rw [z, if_pos rfl] at r0; exact absurd (ti_eq r0 (y := 1) rfl) q2
      rw [if_neg (by rw [hu]; decide)]
      have R2 := R1.th (k := 0)
      refine gOk_imp (mX7_restart_x R2 hn h1 hu _ (mX7_reset_raw hn h1)) (fun q h => rPost.th (rPost_yes h.1.two h.2.1 h.2.2))
    · have hu : nup (zno S n) = true := by
        cases z : nup (zno S n) with
        | true => rfl
        | false => rw [z, if_neg (by decide), q2] at r0; exact absurd r0 (by decide)
      rw [if_pos hu]
      exact gOk_some (rPost.th (rPost_no R1 rfl (by omega) 0))
  · rw [if_pos (h2.2.mp q)]
    exact gOk_some (rPost_no R rfl (by omega) 0)
theorem mX7_submit_ok (R : RZ B (μ 1 0) S) (hB : B + 2 < 1000000000) : gOk (mX7_submit a1 a2 μ) (rPost μ (B + 2) (zaSub S a1.toInt a2)) := by
  have R' := R.up (B' := B + 2) (by omega) hB
  unfold mX7_submit zaSub
  refine gOk_bp (mX7_isNode_ok μ a1) (fun r2 h2 => gOk_guard (fun q => ?_) (fun q => ?_))
  · have hc : 0 ≤ a1.toInt ∧ a1.toInt < 5 := Classical.byContradiction fun z => q (h2.2.mpr z)
    rw [if_neg (show ¬ ¬ (0 ≤ a1.toInt ∧ a1.toInt < 5) from fun z => z hc)]
    obtain ⟨n, hn, h1, he⟩ := nd_of hc
    rw [he]
    have R1 := R.th (k := 0)
    have hR := R1.1.2.1 n hn
    have r1 := hR.2.1
    refine gOk_be (mX7_of_ok _ h1 (k := 1) rfl hn (by omega)) (gOk_guarn (fun q2 => ?_) (fun q2 => ?_))
    · have hr : nro (zno S n) = 2 := by
        rw [q2] at r1
        have e : (2 : Int32).toInt = 2 := rfl
        omega
      rw [if_neg (fun z => z hr)]
      have R2 := R1.th (k := 0)
      have hR2 := R2.1.2.1 n hn
      have r12 := hR2.1.2.2.2.2.2.2.2.2.2.1
      have hb := R.bd hn
      refine gOk_be (mX7_of_ok _ h1 (k := 12) rfl hn (by omega)) (gOk_guard (fun q3 => ?_) (fun q3 => ?_))
      · have hl : (nlg (zno S n)).length < nbs (zno S n) + 24 := by
          refine Nat.lt_of_not_le (fun z => q3 (ti_eq r12 ?_))
          show (24 : Int) = _
          omega
        rw [if_neg (by omega)]
        have R3 := R2.th (k := 0)
        have hll := (R.2.1.2.2.2.2.1 n hn).2.1
        have htm := (R.2.1.2.2.2.2.1 n hn).1
        have hz : zIL (B + 1) (zAdd S n 0 a2) := R.2.1.add hn hr hl (fun c hc => by cases hc) ⟨by show ntm (zno S n) ≤ B + 1; omega, by show 0 ≤ 3; decide, fun r => absurd r (by show ¬ 0 = 1; decide), fun r => absurd r (by show ¬ 0 = 2; decide)⟩
        refine gOk_bp (mX7_last_ok R3.1 R3.2.1.2 R3.2.2 hn h1) (fun r32 h32 => gOk_let (gOk_bp (mX7_append_ok R3 hn h1 hr hl (k := 0) rfl hz hB) (fun μ38 h38 => gOk_some (rPost.th (rPost.th (rPost_yes h38.1.two ?_ h38.2))))))
        rw [ti_add h32 (y := 1) (b := 1) rfl (by omega) (by omega)]
      · rw [if_pos (by
          rw [q3] at r12
          have e : (24 : Int32).toInt = 24 := rfl
          omega)]
        exact gOk_some (rPost.th (rPost.th (rPost_no (R2.up (by omega) hB) rfl (by omega) 0)))
    · rw [if_pos (fun z => q2 (ti_eq r1 (by rw [z]; rfl)))]
      exact gOk_some (rPost.th (rPost_no (R1.up (by omega) hB) rfl (by omega) 0))
  · rw [if_pos (h2.2.mp q)]
    exact gOk_some (rPost_no R' rfl (by omega) 0)
theorem mX7_messages_ok (R : RZ B (μ 1 0) S) : gOk (mX7_messages μ) (rPost μ B (zaMsgs S)) := by
  unfold mX7_messages zaMsgs
  have R1 := R.th (k := 0)
  exact gOk_let (gOk_some (rPost_yes gF2.rf R1.1.1.2.2.2.1 R1))
theorem mX7_lose_ok (R : RZ B (μ 1 0) S) : gOk (mX7_lose a1 μ) (rPost μ B (zaLose S a1.toInt)) := by
  have g4 := R.1.1.2.2.2.1
  have hc := R.cnt
  unfold mX7_lose zaLose
  refine gOk_bp (mX7_isBetween_ok μ (a := a1.toInt) rfl (b := 0) rfl (ti_sub g4 (y := 1) (b := 1) rfl (by omega) (by omega))) (fun r2 h2 => gOk_guard (fun q => ?_) (fun q => ?_))
  · have hc : 0 ≤ a1.toInt ∧ a1.toInt ≤ ((zms S).length : Int) - 1 := Classical.byContradiction fun z => q (h2.2.mpr z)
    rw [if_pos ⟨hc.1, by omega⟩]
    obtain ⟨w, hw, hwe⟩ : ∃ w : Nat, a1.toInt = (w : Int) ∧ a1.toInt.toNat = w := ⟨a1.toInt.toNat, by omega, rfl⟩
    rw [hwe]
    have R1 := R.th (k := 0)
    refine gOk_bp (mX7_remove_ok R1 (w := w) (by omega) hw) (fun μ12 h12 => gOk_be (mX7_tally_ok μ12 (s := 2) rfl (by omega)) (gOk_some (rPost_yes (h12.1.tr gF1.w).two ?_ ⟨?_, ?_, R.2.2⟩)))
    · rw [w3_10, upd_ne _ _ (by omega), h12.2.1.2.2.2.1]
      show (((zms S).eraseIdx w).length : Int) = _
      rw [List.length_eraseIdx, if_pos (by omega)]
    · rw [w3_10]
      obtain ⟨⟨h, I⟩, L⟩ := R.2.1
      exact h12.2.stat (B := B) ⟨⟨h, I.del w⟩, L.del w⟩ (by omega) (by omega)
    · obtain ⟨⟨h, I⟩, L⟩ := R.2.1
      exact ⟨⟨h, I.del w⟩, L.del w⟩
  · rw [if_neg (fun z => (h2.2.mp q) ⟨z.1, by omega⟩)]
    exact gOk_some (rPost_no R rfl (by omega) 0)
theorem mX7_statistic_ok (R : RZ B (μ 1 0) S) : gOk (mX7_statistic a1 μ) (rPost μ B (zaStat S a1.toInt)) := by
  unfold mX7_statistic zaStat
  refine gOk_bp (mX7_isBetween_ok μ (a := a1.toInt) rfl (b := 0) rfl (c := 6) rfl) (fun r2 h2 => gOk_guard (fun q => ?_) (fun q => ?_))
  · have hc : 0 ≤ a1.toInt ∧ a1.toInt ≤ 6 := Classical.byContradiction fun z => q (h2.2.mpr z)
    rw [if_pos hc]
    have R1 := R.th (k := 0)
    obtain ⟨g1, g2, g3, g4, g5, g6, g7⟩ := R1.1.1
    refine gOk_eq (x := a1) rfl (y := 0) (b := 0) rfl (fun w => ?_) (fun w => ?_)
    · rw [if_pos w]
      exact gOk_some (rPost_yes gF2.rf g1 R1)
    · rw [if_neg w]
      have e9 : (9 + a1).toInt = ((9 + a1.toInt.toNat : Nat) : Int) := by rw [ti_add (x := 9) (a := 9) rfl (y := a1) rfl (by omega) (by omega)]; omega
      refine gOk_chk (ti_inb e9 (by omega)) ?_
      rw [ti_cl e9, g6 _ (by omega) (by omega)]
      exact gOk_some (rPost_yes gF2.rf rfl R1)
  · rw [if_neg (h2.2.mp q)]
    exact gOk_some (rPost_no R rfl (by omega) 0)
theorem mX7_winner_ok (R : RZ B (μ 1 0) S) : gOk (mX7_winner a1 μ) (rPost μ B (zaWin S a1.toInt)) := by
  have R1 := R.th (k := 0)
  unfold mX7_winner zaWin
  refine gOk_bp (mX7_isBetween_ok μ (a := a1.toInt) rfl (b := 0) rfl (c := 99) rfl) (fun r2 h2 => gOk_jon (gOk_jon (gOk_if (fun q => ?_) (fun q => ?_))))
  · rw [if_neg (fun z => (h2.2.mp q) ⟨z.1, z.2.1⟩)]
    refine gOk_guard (c := (0 : Int32) = 0) (fun z => absurd rfl z) (fun _ => gOk_some (rPost_no R rfl (by omega) 0))
  · have hc : 0 ≤ a1.toInt ∧ a1.toInt ≤ 99 := Classical.byContradiction fun z => q (h2.2.mpr z)
    have e16 : (16 + a1).toInt = ((16 + a1.toInt.toNat : Nat) : Int) := by rw [ti_add (x := 16) (a := 16) rfl (y := a1) rfl (by omega) (by omega)]; omega
    have g7 := R.1.1.2.2.2.2.2.2 a1.toInt.toNat (by omega)
    have g7' := R1.1.1.2.2.2.2.2.2 a1.toInt.toNat (by omega)
    refine gOk_chk (ti_inb e16 (by omega)) (gOk_lee (fun x18 h18 => ?_))
    rw [ti_cl e16, g7] at h18
    have hx : x18 = 0 ↔ ¬ 0 ≤ (zwi S a1.toInt.toNat).toInt := by
      rw [h18]
      by_cases w : zwi S a1.toInt.toNat < 0
      · rw [if_pos w]
        have := Int32.lt_iff_toInt_lt.mp w
        exact ⟨fun _ z => absurd this (Int.not_lt.mpr z), fun _ => rfl⟩
      · rw [if_neg w]
        have := Int.not_lt.mp (fun y => w (Int32.lt_iff_toInt_lt.mpr y))
        exact ⟨fun z => absurd z (by decide), fun z => absurd this z⟩
    refine gOk_guard (fun w => ?_) (fun w => ?_)
    · have hp : 0 ≤ (zwi S a1.toInt.toNat).toInt := Classical.byContradiction fun z => w (hx.mpr z)
      rw [if_pos ⟨hc.1, hc.2, hp⟩]
      refine gOk_chk (ti_inb e16 (by omega)) ?_
      rw [ti_cl e16, g7']
      exact gOk_some (rPost_yes gF2.rf rfl R1)
    · rw [if_neg (fun z => (hx.mp w) z.2.2)]
      exact gOk_some (rPost_no R rfl (by omega) 0)
end SqApi2
