/-! The reference: standing for election. -/
section SqRef12
variable {μ : gM} {S : sqSt} {B n k i : Nat} {a1 a2 a3 a4 a5 : Int32} {N : sqN} {A A' : Nat → Int32} {m : sqMs}
theorem zIL.ask1 (I : zIL B S) (hn : n < 5) (hi : i < 5) (hin : i ≠ n) (hr : nro (zno S n) = 1) : zIL B (zPost S (0, n, i, ntm (zno S n), zti S + zde S, (nlg (zno S n)).length, sqTT (nlg (zno S n)) (nlg (zno S n)).length, zti S, 0, 0, [])) := by
  obtain ⟨⟨h, I0⟩, L⟩ := I
  obtain ⟨hc, hv, -, -⟩ := (I0.2.2.1 n hn).2.2.2.2.2 hr
  obtain ⟨b1, b2, b3, b4⟩ := L.2.2.2.1 n hn
  have hde := L.2.1
  refine ⟨⟨h, I0.post ⟨⟨hn, hi, by show 0 ≤ 4; decide⟩, fun _ => ⟨?_, ?_, hv⟩, fun r => (by cases r), fun r => (by cases r), fun r => (by cases r), fun r => (by cases r)⟩⟩, L.post ⟨b1, b2, fun r => (by cases r), Nat.zero_le _, b3.TT _, Nat.le_refl _, Nat.zero_le _, Nat.zero_le _, fun e he => (by cases he), ?_, ?_, fun _ => rfl, fun _ => ⟨rfl, rfl⟩, ?_⟩⟩
  · show (nlg (zno S n)).length = (hcl h (ntm (zno S n)) n).length
    rw [hc]
  · show sqTT (nlg (zno S n)) (nlg (zno S n)).length = sqTT (hcl h (ntm (zno S n)) n) (hcl h (ntm (zno S n)) n).length
    rw [hc]
  · intro r
    rcases r with r | r <;> cases r
  · show zti S + zde S ≤ zti S + 5
    omega
  · show n ≠ i
    exact Ne.symm hin
theorem zIL.stand1 (I : zIL B S) (hn : n < 5) (hu : nup (zno S n) = true) (hm : zmem S (zno S n) n = true) (x : Int32) {S1 : sqSt} (e : S1 = zN (zS S 3 1) n (nStand (zno S n) n x)) : zIL (B + 1) S1 := by
  obtain ⟨⟨h, I0⟩, L⟩ := I
  have I1 : zI h (zS S 3 1) := I0.stat
  have L1 : LI B (zS S 3 1) := L.stat
  obtain ⟨h1, J1, -, -⟩ := I1.stand1 hn x
  have e0 : zno (zS S 3 1) = zno S := rfl
  rw [e0] at J1
  exact ⟨⟨h1, by rw [e]; exact J1⟩, L1.ndx hn e ((L.2.2.2.1 n hn).stand hu hm x) (Nat.le_succ B)⟩
theorem RA.stand (R : RA A S) (hZ : zIL B S) (hn : n < 5) {x : Int32} (h3 : A' 12 = A 12 + 1) (he : ∀ k, k ≠ 12 → ¬ (k = 116 + 100 * n + 1 ∨ k = 116 + 100 * n + 2 ∨ k = 116 + 100 * n + 3 ∨ k = 116 + 100 * n + 5 ∨ k = 116 + 100 * n + 6) → A' k = A k) (p1 : (rN A' n 1).toInt = 1) (p2 : (rN A' n 2).toInt = ((ntm (zno S n) + 1 : Nat) : Int)) (p3 : (rN A' n 3).toInt = (n : Int)) (p5 : rN A' n 5 = x) (p6 : (rN A' n 6).toInt = sqMk (fun u => u == n)) : RA A' (zN (zS S 3 1) n (nStand (zno S n) n x)) := by
  obtain ⟨g1, g2, g3, g4, g5, g6, g7⟩ := R.1
  refine ⟨⟨?_, ?_, ?_, ?_, fun i hi => ?_, fun k k1 k2 => ?_, fun t ht => ?_⟩, fun v hv => ?_, fun i m hm => ?_⟩
  · rw [he 0 (by omega) (by omega)]; exact g1
  · rw [he 1 (by omega) (by omega)]; exact g2
  · rw [he 2 (by omega) (by omega)]; exact g3
  · rw [he 3 (by omega) (by omega)]; exact g4
  · rw [he (4 + i) (by omega) (by omega)]; exact g5 i hi
  · show A' (9 + k) = sqU1 (zst S) 3 (zst S 3 + 1) k
    by_cases q : k = 3
    · subst q
      rw [sqU1_at, ← g6 3 k1 k2]; exact h3
    · rw [sqU1_ne q, he (9 + k) (by omega) (by omega)]; exact g6 k k1 k2
  · rw [he (16 + t) (by omega) (by omega)]; exact g7 t ht
  · show RN (rN A' v) (zg S) (sqU1 (zno S) n (nStand (zno S n) n x) v)
    by_cases q : v = n
    · subst q
      rw [sqU1_at]
      obtain ⟨h1, h2, h3', h4, h5, h6, h7, h8, h9, h10, h11, h12⟩ := (R.2.1 v hv).1
      have hs : ∀ k, k < 100 → (k = 0 ∨ k = 4 ∨ (7 ≤ k ∧ k ≤ 12) ∨ 28 ≤ k) → rN A' v k = rN A v k := fun k a b => he _ (by omega) (by omega)
      refine ⟨⟨by rw [hs 0 (by omega) (by omega)]; exact h1, p2, p3, by rw [hs 4 (by omega) (by omega)]; exact h4, by rw [hs 7 (by omega) (by omega)]; exact h5, by rw [hs 8 (by omega) (by omega)]; exact h6, by rw [hs 9 (by omega) (by omega)]; exact h7, by rw [hs 10 (by omega) (by omega)]; exact h8, by rw [hs 11 (by omega) (by omega)]; exact h9, by rw [hs 12 (by omega) (by omega)]; exact h10, h11, fun j f hj => ?_⟩, p1, p5, fun _ => p6, fun r => (by cases r)⟩
      have hj' : (nlg (zno S v))[nbs (zno S v) + j]? = some f := hj
      have := sq_lt hj'
      rw [hs (28 + 3 * j) (by omega) (by omega), hs (28 + 3 * j + 1) (by omega) (by omega), hs (28 + 3 * j + 2) (by omega) (by omega)]
      exact h12 j f hj'
    · rw [sqU1_ne q]
      exact (R.2.1 v hv).cg (fun k hk => he _ (by omega) (by omega))
  · have hm' : (zms S)[i]? = some m := hm
    have hl := (List.getElem?_eq_some_iff.mp hm').1
    have hc := hZ.2.2.2.2.2.2
    exact (R.2.2 i m hm').cg (hZ.2.ml hZ (List.mem_of_getElem? hm')) (fun k hk => he _ (by omega) (by omega))
/-- requests to all others -/
theorem mX7_ask_ok (R : RZ B (μ 1 0) S) (hn : n < 5) (h1 : a1.toInt = (n : Int)) (hr : nro (zno S n) = 1) {c : Nat} (c1 : c < 32) {r16 : Int32} (c2 : r16.toInt = (c : Int)) (c3 : ∀ i, c.testBit i = zmem S (zno S n) i) {Q : gM → Prop} {j18 : gM → Option gM} (hj : ∀ μ', gF1 μ μ' → RZ B (μ' 1 0) (zAsk S n) → gOk (j18 μ') Q) : gOk (gFx2 (fun rec26 (x24 : Int32) (μ25 : gM) =>
      if 5 ≤ x24 then
        j18 μ25
      else
        if x24 = a1 then
          rec26 (x24 + 1) μ25
        else
          gBp (mX7_has r16 x24 μ25) fun r30 =>
          if r30 = 0 then
            rec26 (x24 + 1) μ25
          else
            gBp (mX7_last a1 μ25) fun r33 =>
            gBp (mX7_last a1 μ25) fun r35 =>
            gBp (mX7_termAt a1 r35 μ25) fun r37 =>
            gBd (mX7_send 0 a1 x24 r33 r37 μ25) fun r39 μ40 =>
            rec26 (x24 + 1) μ40) 1000000 0 μ) Q := by
  refine gOk_fx2 (fun m (x5 : Int32) (μ6 : gM) => ∃ j : Nat, m = 5 - j ∧ j ≤ 5 ∧ x5.toInt = (j : Int) ∧ gF1 μ μ6 ∧ RZ B (μ6 1 0) ((List.range j).foldl (fun S i => if i ≠ n ∧ zmem S (zno S n) i = true then zPost S (0, n, i, ntm (zno S n), zti S + zde S, (nlg (zno S n)).length, sqTT (nlg (zno S n)) (nlg (zno S n)).length, zti S, 0, 0, []) else S) S) ∧ zno ((List.range j).foldl (fun S i => if i ≠ n ∧ zmem S (zno S n) i = true then zPost S (0, n, i, ntm (zno S n), zti S + zde S, (nlg (zno S n)).length, sqTT (nlg (zno S n)) (nlg (zno S n)).length, zti S, 0, 0, []) else S) S) = zno S ∧ zg ((List.range j).foldl (fun S i => if i ≠ n ∧ zmem S (zno S n) i = true then zPost S (0, n, i, ntm (zno S n), zti S + zde S, (nlg (zno S n)).length, sqTT (nlg (zno S n)) (nlg (zno S n)).length, zti S, 0, 0, []) else S) S) = zg S) ?_ 1000000 5 _ _ (by omega) ⟨0, rfl, by omega, rfl, gF1.rf, R, rfl, rfl⟩
  intro rec m x5 μ6 hI ih
  obtain ⟨j, hm, j1, j2, j3, j4, j5, j6⟩ := hI
  subst hm
  refine gOk_le (x := 5) (a := 5) rfl j2 (fun q => ?_) (fun q => ?_)
  · have hj5 : j = 5 := by omega
    subst hj5
    exact hj _ j3 j4
  · have hj5 : j < 5 := by omega
    have h8 := ti_add j2 (y := 1) (b := 1) rfl (by omega) (by omega)
    have hs : ∀ (f : sqSt → Nat → sqSt), (List.range (j + 1)).foldl f S = f ((List.range j).foldl f S) j := fun f => by
      rw [List.range_succ, List.foldl_append]; rfl
    have hs := hs (fun S i => if i ≠ n ∧ zmem S (zno S n) i = true then zPost S (0, n, i, ntm (zno S n), zti S + zde S, (nlg (zno S n)).length, sqTT (nlg (zno S n)) (nlg (zno S n)).length, zti S, 0, 0, []) else S)
    have next : ∀ (μ7 : gM) (S7 : sqSt), (List.range (j + 1)).foldl (fun S i => if i ≠ n ∧ zmem S (zno S n) i = true then zPost S (0, n, i, ntm (zno S n), zti S + zde S, (nlg (zno S n)).length, sqTT (nlg (zno S n)) (nlg (zno S n)).length, zti S, 0, 0, []) else S) S = S7 → gF1 μ μ7 → RZ B (μ7 1 0) S7 → zno S7 = zno S → zg S7 = zg S → gOk (rec (x5 + 1) μ7) Q := fun μ7 S7 f0 f1 f2 f3 f4 => ih _ _ (5 - (j + 1)) (by omega) ⟨j + 1, rfl, by omega, by rw [h8]; omega, f1, by rw [f0]; exact f2, by rw [f0]; exact f3, by rw [f0]; exact f4⟩
    generalize (List.range j).foldl (fun S i => if i ≠ n ∧ zmem S (zno S n) i = true then zPost S (0, n, i, ntm (zno S n), zti S + zde S, (nlg (zno S n)).length, sqTT (nlg (zno S n)) (nlg (zno S n)).length, zti S, 0, 0, []) else S) S = Sj at *
    have hzm : zmem Sj (zno Sj n) j = c.testBit j := by
      rw [c3, j5]
      unfold zmem zc
      rw [j6]
    refine gOk_eq j2 h1 (fun q2 => ?_) (fun q2 => ?_)
    · have hs2 := hs.trans (if_neg (fun w => w.1 (by omega)))
      exact next _ Sj hs2 j3 j4 j5 j6
    · refine gOk_bp (mX7_has_ok μ6 c1 hj5 c2 j2) (fun r11 h11 => ?_)
      by_cases w : c.testBit j = true
      · rw [if_pos w] at h11
        refine gOk_if (fun z => absurd (h11.symm.trans z) (by decide)) (fun _ => ?_)
        have hs2 := hs.trans (if_pos ⟨by omega, by rw [hzm]; exact w⟩)
        have hrj : nro (zno Sj n) = 1 := by rw [j5]; exact hr
        have hb := j4.bd hn
        refine gOk_bp (mX7_last_ok j4.1 j4.2.1.2 j4.2.2 hn h1) (fun r33 h33 => gOk_bp (mX7_last_ok j4.1 j4.2.1.2 j4.2.2 hn h1) (fun r35 h35 => gOk_bp (mX7_termAt_ok j4.1 j4.2.1.2 j4.2.2 hn h1 h35 hb.2.1 (Nat.le_refl _)) (fun r37 h37 => ?_)))
        refine gOk_bd (mX7_plain_ok j4 hn hj5 (k := 0) ⟨by omega, by omega⟩ rfl h1 j2 h33 h37) (fun r39 μ40 h40 => ?_)
        exact next _ _ hs2 (j3.tr h40.1) ⟨h40.2, j4.2.1.ask1 hn hj5 (by omega) hrj, j4.2.2⟩ ((zPost_no _ _).trans j5) ((zPost_g _ _).trans j6)
      · rw [if_neg w] at h11
        refine gOk_if (fun _ => ?_) (fun z => absurd h11 z)
        have hs2 := hs.trans (if_neg (fun v => w (by rw [← hzm]; exact v.2)))
        exact next _ Sj hs2 j3 j4 j5 j6
theorem mX7_stand_x (R : RZ B (μ 1 0) S) (hB : B + 3 < 1000000000) (hn : n < 5) (h1 : a1.toInt = (n : Int)) (hu : nup (zno S n) = true) (hm : zmem S (zno S n) n = true) (x : Int32) (hres : ∀ μ10 : gM, μ10 1 0 2 = zse S → (rN (μ10 1 0) n 2).toInt = ((ntm (zno S n) + 1 : Nat) : Int) → gOk (mX7_resetTimer a1 μ10) (fun μ12 => μ12 = w3 μ10 1 0 (116 + 100 * n + 5) x)) : gOk (mX7_stand a1 μ) (fun μ' => gF1 μ μ' ∧ RZ (B + 3) (μ' 1 0) (if sqQb (zc S (zno S n)) (fun u => u == n) = true then zWin (zAsk (zN (zS S 3 1) n (nStand (zno S n) n x)) n) n else zAsk (zN (zS S 3 1) n (nStand (zno S n) n x)) n)) := by
  have L := R.2.1.2
  have hL := L.2.2.2.1 n hn
  have htm := hL.1
  have hR := R.1.2.1 n hn
  have r2 := hR.1.2.1
  have hseed := R.1.1.2.2.1
  have e2 : (rN (μ 1 0) n 2 + 1).toInt = ((ntm (zno S n) + 1 : Nat) : Int) := by rw [ti_add r2 (y := 1) (b := 1) rfl (by omega) (by omega)]; omega
  have hone : (1 : Int32) <<< (a1 &&& 31) = Int32.ofNat (2 ^ n) := by rw [ti_of h1]; exact i32_one ⟨n, hn⟩
  have h2n : (2 : Nat) ^ n < 32 := Nat.lt_of_lt_of_le (Nat.pow_lt_pow_right (by omega) hn) (by decide)
  have hmask : ((1 : Int32) <<< (a1 &&& 31)).toInt = (sqMk (fun u => u == n) : Int) := by
    rw [hone, sqMk_one n hn]; exact ti_nat (by omega)
  unfold mX7_stand
  refine gOk_be (mX7_of_ok μ h1 (k := 2) rfl hn (by omega)) (gOk_be (mX7_set_ok μ h1 (k := 2) rfl hn (by omega)) (gOk_be (mX7_set_ok _ h1 (k := 1) rfl hn (by omega)) (gOk_be (mX7_set_ok _ h1 (k := 3) rfl hn (by omega)) (gOk_be (mX7_set_ok _ h1 (k := 6) rfl hn (by omega)) ?_))))
  generalize hμ10 : w3 (w3 (w3 (w3 μ 1 0 (116 + 100 * n + 2) (rN (μ 1 0) n 2 + 1)) 1 0 (116 + 100 * n + 1) 1) 1 0 (116 + 100 * n + 3) a1) 1 0 (116 + 100 * n + 6) (1 <<< (a1 &&& 31)) = μ10
  have F10 : gF1 μ μ10 := by rw [← hμ10]; exact gF1.w.tr (gF1.w.tr (gF1.w.tr gF1.w))
  have hA : μ10 1 0 = upd (upd (upd (upd (μ 1 0) (116 + 100 * n + 2) (rN (μ 1 0) n 2 + 1)) (116 + 100 * n + 1) 1) (116 + 100 * n + 3) a1) (116 + 100 * n + 6) (1 <<< (a1 &&& 31)) := by
    rw [← hμ10]; simp only [w3_10]
  have po : ∀ k, k ≠ 116 + 100 * n + 1 → k ≠ 116 + 100 * n + 2 → k ≠ 116 + 100 * n + 3 → k ≠ 116 + 100 * n + 6 → μ10 1 0 k = μ 1 0 k := fun k k1 k2 k3 k4 => by rw [hA, upd_ne _ _ k4, upd_ne _ _ k3, upd_ne _ _ k1, upd_ne _ _ k2]
  have p2 : rN (μ10 1 0) n 2 = rN (μ 1 0) n 2 + 1 := by
    show μ10 1 0 (116 + 100 * n + 2) = _
    rw [hA, upd_ne _ _ (by omega), upd_ne _ _ (by omega), upd_ne _ _ (by omega), upd_at]
  have p1 : rN (μ10 1 0) n 1 = 1 := by
    show μ10 1 0 (116 + 100 * n + 1) = _
    rw [hA, upd_ne _ _ (by omega), upd_ne _ _ (by omega), upd_at]
  have p3 : rN (μ10 1 0) n 3 = a1 := by
    show μ10 1 0 (116 + 100 * n + 3) = _
    rw [hA, upd_ne _ _ (by omega), upd_at]
  have p6 : rN (μ10 1 0) n 6 = 1 <<< (a1 &&& 31) := by
    show μ10 1 0 (116 + 100 * n + 6) = _
    rw [hA, upd_at]
  refine gOk_bp (hres μ10 ((po 2 (by omega) (by omega) (by omega) (by omega)).trans hseed) ((congrArg Int32.toInt p2).trans e2)) (fun μ12 h12 => gOk_be (mX7_tally_ok μ12 (s := 3) rfl (by omega)) ?_)
  have F14 : gF1 μ (w3 μ12 1 0 (9 + 3) (μ12 1 0 (9 + 3) + 1)) := by rw [h12]; exact F10.tr (gF1.w.tr gF1.w)
  have hA14 : w3 μ12 1 0 (9 + 3) (μ12 1 0 (9 + 3) + 1) 1 0 = upd (upd (μ10 1 0) (116 + 100 * n + 5) x) 12 (μ 1 0 12 + 1) := by
    rw [h12]; simp only [w3_10]
    rw [upd_ne _ _ (show 9 + 3 ≠ 116 + 100 * n + 5 by omega), po (9 + 3) (by omega) (by omega) (by omega) (by omega)]
  generalize w3 μ12 1 0 (9 + 3) (μ12 1 0 (9 + 3) + 1) = μ14 at *
  have R14 : RA (μ14 1 0) (zN (zS S 3 1) n (nStand (zno S n) n x)) := by
    refine R.1.stand R.2.1 hn ?_ (fun k k1 k2 => ?_) ?_ ?_ ?_ ?_ ?_
    · rw [hA14, upd_at]
    · rw [hA14, upd_ne _ _ k1, upd_ne _ _ (by omega)]; exact po k (by omega) (by omega) (by omega) (by omega)
    · show (μ14 1 0 (116 + 100 * n + 1)).toInt = 1
      rw [hA14, upd_ne _ _ (by omega), upd_ne _ _ (by omega)]
      exact (congrArg Int32.toInt p1).trans rfl
    · show (μ14 1 0 (116 + 100 * n + 2)).toInt = _
      rw [hA14, upd_ne _ _ (by omega), upd_ne _ _ (by omega)]
      exact (congrArg Int32.toInt p2).trans e2
    · show (μ14 1 0 (116 + 100 * n + 3)).toInt = _
      rw [hA14, upd_ne _ _ (by omega), upd_ne _ _ (by omega)]
      exact (congrArg Int32.toInt p3).trans h1
    · show μ14 1 0 (116 + 100 * n + 5) = x
      rw [hA14, upd_ne _ _ (by omega), upd_at]
    · show (μ14 1 0 (116 + 100 * n + 6)).toInt = _
      rw [hA14, upd_ne _ _ (by omega), upd_ne _ _ (by omega)]
      exact (congrArg Int32.toInt p6).trans hmask
  have Z14 := R.2.1.stand1 hn hu hm x rfl
  generalize hS1 : zN (zS S 3 1) n (nStand (zno S n) n x) = S1 at *
  have e1 : zno S1 n = nStand (zno S n) n x := by rw [← hS1]; exact zN_at _ _ _
  have e0 : zg S1 = zg S := by rw [← hS1]; rfl
  have RZ14 : RZ (B + 1) (μ14 1 0) S1 := ⟨R14, Z14, by omega⟩
  have hr1 : nro (zno S1 n) = 1 := by rw [e1]; rfl
  refine gOk_bp (mX7_members_ok RZ14 hn h1) (fun r16 h16 => ?_)
  obtain ⟨c, c1, c2, c3⟩ := h16
  refine gOk_jp (γ := gM) (fun μ17 => gF1 μ μ17 ∧ RZ (B + 1) (μ17 1 0) (zAsk S1 n)) (fun μ' => gF1 μ μ' ∧ RZ (B + 3) (μ' 1 0) (if sqQb (zc S (zno S n)) (fun u => u == n) = true then zWin (zAsk S1 n) n else zAsk S1 n)) (fun μ17 h17 => ?_) (fun j18 hj18 => ?_)
  · obtain ⟨F17, R17⟩ := h17
    obtain ⟨-, a2', a3'⟩ := Z14.2.ask hn
    obtain ⟨h0, I0⟩ := Z14.1
    obtain ⟨hc, hv, -, -⟩ := (I0.2.2.1 n hn).2.2.2.2.2 hr1
    obtain ⟨-, -, a4'⟩ := I0.ask hn hc hv
    have hzc : zc (zAsk S1 n) (zno (zAsk S1 n) n) = zc S (zno S n) := by
      unfold zc
      rw [a4', a3', e1, e0]
      rfl
    refine gOk_bp (mX7_isQuorum_ok R17 hn h1 hmask) (fun r20 h20 => ?_)
    rw [hzc] at h20
    by_cases w : sqQb (zc S (zno S n)) (fun u => u == n) = true
    · rw [if_pos w] at h20 ⊢
      refine gOk_if (fun z => absurd (h20.symm.trans z) (by decide)) (fun _ => ?_)
      have hr2 : nro (zno (zAsk S1 n) n) = 1 := by rw [a3']; exact hr1
      have hq2 : sqQb (zc (zAsk S1 n) (zno (zAsk S1 n) n)) (nvs (zno (zAsk S1 n) n)) = true := by
        rw [hzc, a3', e1]; exact w
      exact gOk_bp (mX7_win_ok R17 (by omega) hn h1 hr2 hq2) (fun μ23 h23 => gOk_some ⟨F17.tr h23.1, h23.2⟩)
    · rw [if_neg w] at h20 ⊢
      refine gOk_if (fun _ => gOk_some ⟨F17, R17.1, ⟨R17.2.1.1, R17.2.1.2.up (by omega)⟩, by omega⟩) (fun z => absurd h20 z)
  · exact mX7_ask_ok RZ14 hn h1 hr1 c1 c2 c3 (fun μ' f r => hj18 _ ⟨F14.tr f, r⟩)
theorem mX7_reset_raw (hn : n < 5) (h1 : a1.toInt = (n : Int)) {T : Nat} : ∀ μ10 : gM, μ10 1 0 2 = zse S → (rN (μ10 1 0) n 2).toInt = (T : Int) → gOk (mX7_resetTimer a1 μ10) (fun μ12 => μ12 = w3 μ10 1 0 (116 + 100 * n + 5) (zTim S n T)) := by
  intro μ10 hs h2
  unfold mX7_resetTimer
  refine gOk_be (mX7_of_ok μ10 h1 (k := 2) rfl hn (by omega)) (gOk_lee (fun x hx => gOk_be (mX7_set_ok μ10 h1 (k := 5) rfl hn (by omega)) (gOk_some ?_)))
  have ex : 8 + (x &&& 7) = zTim S n T := by
    unfold zTim
    rw [hx, hs, ti_of h2, ti_of h1]
  rw [ex]
theorem mX7_stand_ok (R : RZ B (μ 1 0) S) (hB : B + 3 < 1000000000) (hn : n < 5) (h1 : a1.toInt = (n : Int)) (hu : nup (zno S n) = true) (hm : zmem S (zno S n) n = true) : gOk (mX7_stand a1 μ) (fun μ' => gF1 μ μ' ∧ RZ (B + 3) (μ' 1 0) (zStand S n)) := by
  unfold zStand
  exact mX7_stand_x R hB hn h1 hu hm _ (mX7_reset_raw hn h1)
end SqRef12
