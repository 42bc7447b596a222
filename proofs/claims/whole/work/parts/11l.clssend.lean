/-! The class: sending to all, answering. -/
/-- a cluster is the state S, and S keeps what it must -/
def RY (B : Nat) (μ : gM) (q : Nat) (S : sqSt) : Prop := RB μ q S ∧ zIL B S ∧ B < 900000000
section SqClt
variable {μ μ' μ1 : gM} {n g b k i nc B t t1 s q : Nat} {l : List sqE} {a1 a2 a3 a4 : Int32} {e : sqE} {m : sqMs} {S S' : sqSt} {N : sqN}
theorem RY.len (h : RY B μ q S) (hn : n < 5) : (nlg (zno S n)).length < 900000000 := by
  have := (h.2.1.2.2.2.2.1 n hn).2.1
  have := h.2.2
  omega
theorem RY.tm (h : RY B μ q S) : zti S + zde S < 2000000000 := by
  have := h.2.1.2.1
  have := h.2.1.2.2.1.2
  have := h.2.2
  omega
theorem RY.G (h : RY B μ q S) (hn : n < 5) : sqG (sqF (zg S) (nlg (zno S n))) := by
  obtain ⟨⟨hh, I0⟩, L⟩ := h.2.1
  exact I0.G hn
theorem mX0_sendToMembers_ok (h : RY B μ q S) (hq : q < nc) (hnc : nc ≤ 2) (hn : n < 5) (hr : nro (zno S n) = 2) : gOk (mX0_sendToMembers nc q (5 * q + n) μ) (fun μ' => gFr (rbP q) μ μ' ∧ RY B μ' q (zAll S n)) := by
  unfold mX0_sendToMembers
  refine gOk_jon ?_
  refine gOk_fx2 (fun m (x3 : Int32) (μ4 : gM) => ∃ j : Nat, m = 5 - j ∧ j ≤ 5 ∧ x3.toInt = (j : Int) ∧ gFr (rbP q) μ μ4 ∧ RY B μ4 q ((List.range j).foldl (fun S i => if i ≠ n ∧ zmem S (zno S n) i = true then zSnd S n i else S) S) ∧ zno ((List.range j).foldl (fun S i => if i ≠ n ∧ zmem S (zno S n) i = true then zSnd S n i else S) S) = zno S ∧ zg ((List.range j).foldl (fun S i => if i ≠ n ∧ zmem S (zno S n) i = true then zSnd S n i else S) S) = zg S) ?_ 1000000 5 _ _ (by omega) ⟨0, rfl, by omega, rfl, gFr.rf, h, rfl, rfl⟩
  intro rec m x3 μ4 hI ih
  obtain ⟨j, hm, j1, j2, j3, j4, j5, j6⟩ := hI
  subst hm
  refine gOk_le (x := 5) (a := 5) rfl j2 (fun z => gOk_some ?_) (fun z => ?_)
  · have hj : j = 5 := by omega
    subst hj
    exact ⟨j3, j4⟩
  · have hj5 : j < 5 := by omega
    have h8 := ti_add j2 (y := 1) (b := 1) rfl (by omega) (by omega)
    have hs : (List.range (j + 1)).foldl (fun S i => if i ≠ n ∧ zmem S (zno S n) i = true then zSnd S n i else S) S = if j ≠ n ∧ zmem ((List.range j).foldl (fun S i => if i ≠ n ∧ zmem S (zno S n) i = true then zSnd S n i else S) S) (zno ((List.range j).foldl (fun S i => if i ≠ n ∧ zmem S (zno S n) i = true then zSnd S n i else S) S) n) j = true then zSnd ((List.range j).foldl (fun S i => if i ≠ n ∧ zmem S (zno S n) i = true then zSnd S n i else S) S) n j else (List.range j).foldl (fun S i => if i ≠ n ∧ zmem S (zno S n) i = true then zSnd S n i else S) S := by
      rw [List.range_succ, List.foldl_append]; rfl
    have next : ∀ μ7 : gM, gFr (rbP q) μ μ7 → RY B μ7 q ((List.range (j + 1)).foldl (fun S i => if i ≠ n ∧ zmem S (zno S n) i = true then zSnd S n i else S) S) → zno ((List.range (j + 1)).foldl (fun S i => if i ≠ n ∧ zmem S (zno S n) i = true then zSnd S n i else S) S) = zno S → zg ((List.range (j + 1)).foldl (fun S i => if i ≠ n ∧ zmem S (zno S n) i = true then zSnd S n i else S) S) = zg S → gOk (rec (x3 + 1) μ7) (fun μ' => gFr (rbP q) μ μ' ∧ RY B μ' q (zAll S n)) := fun μ7 f1 f2 f3 f4 => ih _ _ (5 - (j + 1)) (by omega) ⟨j + 1, rfl, by omega, by rw [h8]; omega, f1, f2, f3, f4⟩
    generalize (List.range j).foldl (fun S i => if i ≠ n ∧ zmem S (zno S n) i = true then zSnd S n i else S) S = Sj at *
    have hb := j4.1.2.1 n hn
    refine gOk_eq j2 hb.1.1 (fun z2 => ?_) (fun z2 => ?_)
    · rw [if_neg (fun w => w.1 (by omega))] at hs
      exact next _ j3 (by rw [hs]; exact j4) (by rw [hs]; exact j5) (by rw [hs]; exact j6)
    · refine gOk_bp (mX1_isMember_ok hb.1.2.2.2.2.2.2 (j4.G hn) hj5 j2) (fun r9 h9 => ?_)
      have hrj : nro (zno Sj n) = 2 := by rw [j5]; exact hr
      by_cases w : zmem Sj (zno Sj n) j = true
      · rw [if_pos (show ((sqF (zg Sj) (nlg (zno Sj n))).1.testBit j || (sqF (zg Sj) (nlg (zno Sj n))).2.testBit j) = true from w)] at h9
        refine gOk_if (fun z => absurd (h9.symm.trans z) (by decide)) (fun _ => ?_)
        rw [if_pos ⟨by omega, w⟩] at hs
        have hz := j4.2.1.nx hn hj5 hrj
        refine gOk_bp (mX0_sendTo_ok j4.1 hq hnc hn hj5 hrj j4.tm (j4.len hn) hz.2 j2) (fun μ12 h12 => next _ (j3.tr h12.1) ?_ ?_ ?_)
        · rw [hs]; exact ⟨h12.2, j4.2.1.snd hn hj5 (by omega) hrj, j4.2.2⟩
        · rw [hs, zSnd_no]; exact j5
        · rw [hs, zSnd_g]; exact j6
      · rw [if_neg (show ¬ ((sqF (zg Sj) (nlg (zno Sj n))).1.testBit j || (sqF (zg Sj) (nlg (zno Sj n))).2.testBit j) = true from w)] at h9
        refine gOk_if (fun _ => ?_) (fun z => absurd h9 z)
        rw [if_neg (fun v => w v.2)] at hs
        exact next _ j3 (by rw [hs]; exact j4) (by rw [hs]; exact j5) (by rw [hs]; exact j6)
theorem mX0_answer_ok (h : RB μ q S) (hq : q < nc) (hnc : nc ≤ 2) (hn : n < 5) (hT : zti S + zde S < 2000000000) (hm : BM μ t g m) (ht : t ≠ nwP μ q 40) (hse : mse m < 5) {fl ix : Nat} (hf : fl ≤ 1) (h3 : a3.toInt = (fl : Int)) (h4 : a4.toInt = (ix : Int)) : gOk (mX0_answer nc q (5 * q + n) t a3 a4 μ) (fun μ' => gFr (rbP q) μ μ' ∧ RB μ' q (zOk S n m fl ix)) := by
  have hrow := h.rows
  have h31 : a3 = 0 ∨ a3 = 1 := by
    rcases (show fl = 0 ∨ fl = 1 by omega) with z | z
    · exact Or.inl (ti_eq (h3.trans (by rw [z]; rfl)) rfl)
    · exact Or.inr (ti_eq (h3.trans (by rw [z]; rfl)) rfl)
  unfold mX0_answer
  refine gOk_bd (mX0_open_ok h hq hn hT (kd := 3) rfl hm.2.1) (fun r2 μ3 hp => ?_)
  obtain ⟨p1, p2, p3⟩ := hp
  have p1 : r2 = nwP μ q 40 := p1
  have p2 : gFr (mgP (nwP μ q 40)) μ μ3 := p2
  have p3 : opC μ3 (nwP μ q 40) 3 n (mse m) (ntm (zno S n)) (zti S + zde S) (zti S) := p3
  rw [p1]
  refine gOk_chk (h.1.num hq (by omega)) (gOk_chk h31 (gOk_lee (fun μ6 h6 => gOk_lee (fun μ8 h8 => gOk_lee (fun μ10 h10 => ?_)))))
  have F6 : gFr (mgP (nwP μ q 40)) μ μ6 := p2.tr (by rw [h6]; exact gFr.w ⟨rfl, by omega⟩)
  have F8 : gFr (mgP (nwP μ q 40)) μ μ8 := F6.tr (by rw [h8]; exact gFr.w ⟨rfl, by omega⟩)
  have F10 : gFr (mgP (nwP μ q 40)) μ μ10 := F8.tr (by rw [h10]; exact gFr.w ⟨rfl, by omega⟩)
  rw [F8 19 t 9 (fun y => ht y.1)] at h10
  have hd := h.draft F10
  obtain ⟨o3, o4, o5, o6, o7, o8, o9, o10, o11, o12, o13⟩ := p3
  have up : ∀ j, j ≠ 9 → j ≠ 10 → j ≠ 12 → μ10 19 (nwP μ q 40) j = μ3 19 (nwP μ q 40) j := fun j j1 j2 j3 => by rw [h10, w3_o _ _ (by omega), h8, w3_o _ _ (by omega), h6, w3_o _ _ (by omega)]
  have bm : BM μ10 (nwP μ q 40) (zg S) (3, n, mse m, ntm (zno S n), zti S + zde S, ix, fl, mto m, 0, 0, []) := by
    have c12 : μ10 19 (nwP μ q 40) 12 = a3 := by rw [h10, w3_o _ _ (by omega), h8, w3_o _ _ (by omega), h6, w3_at]
    refine ⟨?_, ?_, ?_, ?_, ?_, ?_, ?_, by rw [c12]; exact h31, fun z => (by cases z), fun _ => by rw [c12]; exact h3, fun z => (by cases z), fun z => (by cases z)⟩
    · rw [up 4 (by omega) (by omega) (by omega)]; exact o4
    · rw [up 5 (by omega) (by omega) (by omega)]; exact o5
    · rw [up 6 (by omega) (by omega) (by omega)]; exact o6
    · rw [up 7 (by omega) (by omega) (by omega)]; exact o7
    · rw [up 8 (by omega) (by omega) (by omega)]; exact o8
    · rw [h10, w3_at]; exact hm.2.2.2.2.2.1
    · rw [h10, w3_o _ _ (by omega), h8, w3_at]; exact h4
  refine gOk_bp (hd.post hq hnc (by rw [h.place F10]; exact bm) hn hse) (fun μ13 h13 => gOk_some ⟨(F10.up (mgP_rb hrow.2 hrow.1)).tr (h13.1.up npP_rb), h13.2⟩)
end SqClt
