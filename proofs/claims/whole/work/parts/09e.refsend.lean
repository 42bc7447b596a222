/-! The reference: requests, replies, answers, snapshots, entries that are sent. -/
section SqRef5
variable {μ : gM} {S : sqSt} {B n k i : Nat} {a1 a2 a3 a4 a5 : Int32} {N : sqN} {A A' : Nat → Int32} {m : sqMs}
theorem zPost_lost {m : sqMs} (h : zcu S (mse m) (mre m) = true ∨ 40 ≤ (zms S).length) : zPost S m = zS (zS S 1 1) 2 1 := by unfold zPost; rw [if_pos h]
theorem zPost_sent {m : sqMs} (h : ¬ (zcu S (mse m) (mre m) = true ∨ 40 ≤ (zms S).length)) : zPost S m = zM (zS S 1 1) (zms S ++ [m]) := by unfold zPost; rw [if_neg h]
theorem mX7_plain_ok (R : RZ B (μ 1 0) S) (hn : n < 5) (hi : i < 5) {k ix fl : Nat} (hk : k ≠ 2 ∧ k ≠ 4) (h1 : a1.toInt = (k : Int)) (h2 : a2.toInt = (n : Int)) (h3 : a3.toInt = (i : Int)) (h4 : a4.toInt = (ix : Int)) (h5 : a5.toInt = (fl : Int)) : gOk (mX7_send a1 a2 a3 a4 a5 μ) (fun q => gF1 μ q.2 ∧ RA (q.2 1 0) (zPost S (k, n, i, ntm (zno S n), zti S + zde S, ix, fl, zti S, 0, 0, []))) := by
  refine gOk_imp (mX7_send_ok (a1 := a1) (a4 := a4) (a5 := a5) R hn hi h2 h3) (fun q hq => ⟨hq.1, ?_⟩)
  rcases hq.2 with ⟨q1, q2, q3⟩ | ⟨q1, q2, q3, q4⟩
  · rw [zPost_lost (m := (k, n, i, ntm (zno S n), zti S + zde S, ix, fl, zti S, 0, 0, [])) q1]; exact q3
  · rw [zPost_sent (m := (k, n, i, ntm (zno S n), zti S + zde S, ix, fl, zti S, 0, 0, [])) q1]
    obtain ⟨b0, b1, b2, b3, b4, b5, b6, b7, b8⟩ := q4
    refine RPp.fin (S := zS S 1 1) q3 ⟨?_, ?_, ?_, b3, ?_, ?_, ?_, b7, fun r => absurd r hk.1, fun r => absurd r hk.2⟩
    · exact (congrArg Int32.toInt b0).trans h1
    · exact (congrArg Int32.toInt b1).trans h2
    · exact (congrArg Int32.toInt b2).trans h3
    · rw [show (mdu (k, n, i, ntm (zno S n), zti S + zde S, ix, fl, zti S, 0, 0, ([] : List sqE)) : Int) = (zti S : Int) + zde S by show ((zti S + zde S : Nat) : Int) = _; omega]; exact b4
    · exact (congrArg Int32.toInt b5).trans h4
    · exact (congrArg Int32.toInt b6).trans h5
theorem RZ.cnt (R : RZ B (μ 1 0) S) : (zms S).length ≤ 40 := R.2.1.2.2.2.2.2.2
theorem mX7_answer_ok (R : RZ B (μ 1 0) S) (hn : n < 5) (hG : RM (μ 4 0) (zg S) m) (hs : mse m < 5) {ix fl : Nat} (h1 : a1.toInt = (n : Int)) (h2 : a2.toInt = (ix : Int)) (h3 : a3.toInt = (fl : Int)) : gOk (mX7_answer a1 a2 a3 μ) (fun μ' => gF1 μ μ' ∧ RA (μ' 1 0) (zOk S n m fl ix)) := by
  unfold mX7_answer zOk
  refine gOk_bd (mX7_send_ok (a1 := 3) (a4 := a2) (a5 := a3) R hn hs h1 hG.2.1) (fun r2 μ3 hq => ?_)
  rcases hq.2 with ⟨q1, q2, q3⟩ | ⟨q1, q2, q3, q4⟩
  · have q2' : r2 = -1 := q2
    rw [zPost_lost (m := (3, n, mse m, ntm (zno S n), zti S + zde S, ix, fl, mto m, 0, 0, [])) q1]
    refine gOk_if (fun _ => gOk_some ⟨hq.1, q3⟩) (fun w => absurd (by rw [q2']; decide) w)
  · have q2' : r2.toInt = ((zms S).length : Int) := q2
    have hlt : (zms S).length < 40 := Nat.lt_of_not_le (fun w => q1 (Or.inr w))
    rw [zPost_sent (m := (3, n, mse m, ntm (zno S n), zti S + zde S, ix, fl, mto m, 0, 0, [])) q1]
    refine gOk_lt q2' (y := 0) (b := 0) rfl (fun w => absurd w (by omega)) (fun _ => ?_)
    refine gOk_be (mX7_put_ok μ3 q2' (k := 7) rfl hlt (by omega)) (gOk_some ⟨hq.1.tr gF1.w, ?_⟩)
    rw [w3_10]
    have q3' : RPp (μ3 1 0) (zS S 1 1) := q3
    refine RPp.fin (S := zS S 1 1) (q3'.put (k := 7) (B := B) (S := zS S 1 1) R.2.1 hlt (by omega)) ?_
    have hm : (zms (zS S 1 1)).length = (zms S).length := rfl
    rw [hm, rM_upd]
    have q4' : RMk (rM (μ3 1 0) (zms S).length) S n 3 a1 (μ 4 0 1) a2 a3 := q4
    obtain ⟨b0, b1, b2, b3, b4, b5, b6, b7, b8⟩ := q4'
    have e4 : μ3 4 0 = μ 4 0 := hq.1 4 0 (by omega)
    refine ⟨?_, ?_, ?_, ?_, ?_, ?_, ?_, ?_, fun r => (by cases r), fun r => (by cases r)⟩
    · rw [upd_ne _ _ (by omega), b0]; rfl
    · rw [upd_ne _ _ (by omega), b1]; exact h1
    · rw [upd_ne _ _ (by omega), b2]; exact hG.2.1
    · rw [upd_ne _ _ (by omega)]; exact b3
    · rw [upd_ne _ _ (by omega), b4]; show _ = ((zti S + zde S : Nat) : Int); omega
    · rw [upd_ne _ _ (by omega), b5]; exact h2
    · rw [upd_ne _ _ (by omega), b6]; exact h3
    · rw [upd_at, e4]; exact hG.2.2.2.2.2.2.2.1
theorem mX7_sendSnapshot_ok (R : RZ B (μ 1 0) S) (hn : n < 5) (hi : i < 5) (h1 : a1.toInt = (n : Int)) (h2 : a2.toInt = (i : Int)) : gOk (mX7_sendSnapshot a1 a2 μ) (fun μ' => gF1 μ μ' ∧ RA (μ' 1 0) (zPost S (4, n, i, ntm (zno S n), zti S + zde S, nbs (zno S n), sqTT (nlg (zno S n)) (nbs (zno S n)), zti S, 0, 0, (nlg (zno S n)).take (nbs (zno S n))))) := by
  obtain ⟨⟨r1, r2, r3, r4, r5, r6, r7, r8, r9, r10, r11, r12⟩, -⟩ := R.1.2.1 n hn
  unfold mX7_sendSnapshot
  refine gOk_be (mX7_of_ok μ h1 (k := 7) rfl hn (by omega)) (gOk_be (mX7_of_ok μ h1 (k := 8) rfl hn (by omega)) ?_)
  refine gOk_bd (mX7_send_ok (a1 := 4) R hn hi h1 h2) (fun r6' μ7 hq => ?_)
  rcases hq.2 with ⟨q1, q2, q3⟩ | ⟨q1, q2, q3, q4⟩
  · have q2' : r6' = -1 := q2
    rw [zPost_lost (m := (4, n, i, ntm (zno S n), zti S + zde S, nbs (zno S n), sqTT (nlg (zno S n)) (nbs (zno S n)), zti S, 0, 0, (nlg (zno S n)).take (nbs (zno S n)))) q1]
    refine gOk_if (fun _ => gOk_some ⟨hq.1, q3⟩) (fun w => absurd (by rw [q2']; decide) w)
  · have q2' : r6'.toInt = ((zms S).length : Int) := q2
    have hlt : (zms S).length < 40 := Nat.lt_of_not_le (fun w => q1 (Or.inr w))
    rw [zPost_sent (m := (4, n, i, ntm (zno S n), zti S + zde S, nbs (zno S n), sqTT (nlg (zno S n)) (nbs (zno S n)), zti S, 0, 0, (nlg (zno S n)).take (nbs (zno S n)))) q1]
    have q3' : RPp (μ7 1 0) (zS S 1 1) := q3
    have q4' : RMk (rM (μ7 1 0) (zms S).length) S n 4 a1 a2 (rN (μ 1 0) n 7) (rN (μ 1 0) n 8) := q4
    obtain ⟨⟨s1, s2, s3, s4, s5, s6, s7, s8, s9, -⟩, -⟩ := q3'.2.1 n hn
    have hm : (zms (zS S 1 1)).length = (zms S).length := rfl
    have p1 : RPp (upd (μ7 1 0) (616 + 25 * (zms S).length + 10) (rN (μ7 1 0) n 9)) (zS S 1 1) := q3'.put (k := 10) (B := B) (S := zS S 1 1) R.2.1 hlt (by omega)
    have p2 : RPp (upd (upd (μ7 1 0) (616 + 25 * (zms S).length + 10) (rN (μ7 1 0) n 9)) (616 + 25 * (zms S).length + 11) (rN (μ7 1 0) n 10)) (zS S 1 1) := p1.put (k := 11) (B := B) (S := zS S 1 1) R.2.1 hlt (by omega)
    have p3 : RPp (upd (upd (upd (μ7 1 0) (616 + 25 * (zms S).length + 10) (rN (μ7 1 0) n 9)) (616 + 25 * (zms S).length + 11) (rN (μ7 1 0) n 10)) (616 + 25 * (zms S).length + 12) (rN (μ7 1 0) n 11)) (zS S 1 1) := p2.put (k := 12) (B := B) (S := zS S 1 1) R.2.1 hlt (by omega)
    have en : ∀ (X : Nat → Int32) (j : Nat) (v : Int32) (k : Nat), k < 100 → rN (upd X (616 + 25 * (zms S).length + j) v) n k = rN X n k := fun X j v k hk => upd_ne _ _ (by omega)
    refine gOk_lt q2' (y := 0) (b := 0) rfl (fun w => absurd w (by omega)) (fun _ => ?_)
    refine gOk_be (mX7_of_ok μ7 h1 (k := 9) rfl hn (by omega)) (gOk_be (mX7_put_ok μ7 q2' (k := 10) rfl hlt (by omega)) ?_)
    refine gOk_be (mX7_of_ok _ h1 (k := 10) rfl hn (by omega)) (gOk_be (mX7_put_ok _ q2' (k := 11) rfl hlt (by omega)) ?_)
    refine gOk_be (mX7_of_ok _ h1 (k := 11) rfl hn (by omega)) (gOk_be (mX7_put_ok _ q2' (k := 12) rfl hlt (by omega)) (gOk_some ⟨hq.1.tr (gF1.w.tr (gF1.w.tr gF1.w)), ?_⟩))
    simp only [w3_10]
    rw [en _ _ _ 10 (by omega), en _ _ _ 11 (by omega), en _ _ _ 11 (by omega)]
    refine RPp.fin (S := zS S 1 1) p3 ?_
    rw [hm, rM_upd, rM_upd, rM_upd]
    obtain ⟨b0, b1, b2, b3, b4, b5, b6, b7, b8⟩ := q4'
    refine ⟨?_, ?_, ?_, ?_, ?_, ?_, ?_, ?_, fun r => (by cases r), fun _ => ⟨?_, ?_, ?_⟩⟩
    · rw [upd_ne _ _ (by omega), upd_ne _ _ (by omega), upd_ne _ _ (by omega), b0]; rfl
    · rw [upd_ne _ _ (by omega), upd_ne _ _ (by omega), upd_ne _ _ (by omega), b1]; exact h1
    · rw [upd_ne _ _ (by omega), upd_ne _ _ (by omega), upd_ne _ _ (by omega), b2]; exact h2
    · rw [upd_ne _ _ (by omega), upd_ne _ _ (by omega), upd_ne _ _ (by omega)]; exact b3
    · rw [upd_ne _ _ (by omega), upd_ne _ _ (by omega), upd_ne _ _ (by omega), b4]; show _ = ((zti S + zde S : Nat) : Int); omega
    · rw [upd_ne _ _ (by omega), upd_ne _ _ (by omega), upd_ne _ _ (by omega), b5]; exact r5
    · rw [upd_ne _ _ (by omega), upd_ne _ _ (by omega), upd_ne _ _ (by omega), b6]; exact r6
    · rw [upd_ne _ _ (by omega), upd_ne _ _ (by omega), upd_ne _ _ (by omega)]; exact b7
    · rw [upd_ne _ _ (by omega), upd_ne _ _ (by omega), upd_at]; exact s7
    · rw [upd_ne _ _ (by omega), upd_at]; exact s8
    · rw [upd_at]; exact s9
theorem i32_d3 : ∀ k : Fin 12, Int32.ofNat k.val / 3 = Int32.ofNat (k.val / 3) ∧ Int32.ofNat k.val - Int32.ofNat k.val / 3 * 3 = Int32.ofNat (k.val % 3) := by decide +kernel
theorem mX7_sendEntries_ok (R : RZ B (μ 1 0) S) (hn : n < 5) (hi : i < 5) (h1 : a1.toInt = (n : Int)) (h2 : a2.toInt = (i : Int)) (hr : nro (zno S n) = 2) (hx1 : nbs (zno S n) < nnx (zno S n) i) (hx2 : nnx (zno S n) i ≤ (nlg (zno S n)).length + 1) : gOk (mX7_sendEntries a1 a2 μ) (fun μ' => gF1 μ μ' ∧ RA (μ' 1 0) (zPost S (2, n, i, ntm (zno S n), zti S + zde S, nnx (zno S n) i - 1, (((nlg (zno S n)).drop (nnx (zno S n) i - 1)).take 4).length, zti S, sqTT (nlg (zno S n)) (nnx (zno S n) i - 1), ncm (zno S n), ((nlg (zno S n)).drop (nnx (zno S n) i - 1)).take 4))) := by
  have R' := R
  obtain ⟨⟨r1, r2, r3, r4, r5, r6, r7, r8, r9, r10, r11, r12⟩, -, -, -, u4⟩ := R'.1.2.1 n hn
  obtain ⟨u1, u2, u3⟩ := u4 hr i hi
  have hB := R.2.2
  have L := R.2.1.2
  have hll := (L.2.2.2.1 n hn).2.1
  generalize hes : ((nlg (zno S n)).drop (nnx (zno S n) i - 1)).take 4 = es
  have hesl : es.length = min 4 ((nlg (zno S n)).length + 1 - nnx (zno S n) i) := by
    rw [← hes, List.length_take, List.length_drop]; congr 1; omega
  have hget : ∀ (k : Nat) (e : sqE), es[k]? = some e → (nlg (zno S n))[nnx (zno S n) i - 1 + k]? = some e := by
    intro k e hk
    rw [← hes, List.getElem?_take] at hk
    split at hk
    · rw [List.getElem?_drop] at hk; exact hk
    · cases hk
  have h13 : (13 + a2).toInt = ((13 + i : Nat) : Int) := by rw [ti_add (x := 13) (a := 13) rfl h2 (by omega) (by omega)]; omega
  unfold mX7_sendEntries
  refine gOk_be (mX7_of_ok μ h1 h13 hn (by omega)) (gOk_bp (mX7_last_ok R.1 L hB hn h1) (fun r4' h4 => gOk_let (gOk_lee (fun x9 h9 => ?_))))
  have e5 := ti_add (ti_sub h4 u1 (by omega) (by omega)) (y := 1) (b := 1) rfl (by omega) (by omega)
  have e9 : x9.toInt = (es.length : Int) := by
    rw [h9, hesl]
    by_cases w : (r4' - rN (μ 1 0) n (13 + i)) + 1 ≤ 4
    · rw [if_pos w, e5]
      have := Int32.le_iff_toInt_le.mp w
      have e4 : (4 : Int32).toInt = 4 := rfl
      rw [e5, e4] at this
      have hle : (nlg (zno S n)).length + 1 - nnx (zno S n) i ≤ 4 := by omega
      rw [Nat.min_eq_right hle]
      omega
    · rw [if_neg w]
      have := Int.not_le.mp (fun z => w (Int32.le_iff_toInt_le.mpr z))
      have e4 : (4 : Int32).toInt = 4 := rfl
      rw [e5, e4] at this
      rw [e4]
      have hle : 4 ≤ (nlg (zno S n)).length + 1 - nnx (zno S n) i := by omega
      rw [Nat.min_eq_left hle]
      rfl
  have e1 := ti_sub u1 (y := 1) (b := 1) rfl (by omega) (by omega)
  have e1' : (rN (μ 1 0) n (13 + i) - 1).toInt = ((nnx (zno S n) i - 1 : Nat) : Int) := by rw [e1]; omega
  refine gOk_bd (mX7_send_ok (a1 := 2) R hn hi h1 h2) (fun r14 μ15 hq => ?_)
  have hme : mse (2, n, i, ntm (zno S n), zti S + zde S, nnx (zno S n) i - 1, es.length, zti S, sqTT (nlg (zno S n)) (nnx (zno S n) i - 1), ncm (zno S n), es) = n := rfl
  rcases hq.2 with ⟨q1, q2, q3⟩ | ⟨q1, q2, q3, q4⟩
  · have q2' : r14 = -1 := q2
    rw [zPost_lost (m := (2, n, i, ntm (zno S n), zti S + zde S, nnx (zno S n) i - 1, es.length, zti S, sqTT (nlg (zno S n)) (nnx (zno S n) i - 1), ncm (zno S n), es)) q1]
    refine gOk_if (fun _ => gOk_some ⟨hq.1, q3⟩) (fun w => absurd (by rw [q2']; decide) w)
  · have q2' : r14.toInt = ((zms S).length : Int) := q2
    have hlt : (zms S).length < 40 := Nat.lt_of_not_le (fun w => q1 (Or.inr w))
    rw [zPost_sent (m := (2, n, i, ntm (zno S n), zti S + zde S, nnx (zno S n) i - 1, es.length, zti S, sqTT (nlg (zno S n)) (nnx (zno S n) i - 1), ncm (zno S n), es)) q1]
    have q3' : RPp (μ15 1 0) (zS S 1 1) := q3
    have q4' : RMk (rM (μ15 1 0) (zms S).length) S n 2 a1 a2 (rN (μ 1 0) n (13 + i) - 1) x9 := q4
    have hm : (zms (zS S 1 1)).length = (zms S).length := rfl
    have en : ∀ (X : Nat → Int32) (j : Nat) (v : Int32) (k : Nat), k < 100 → rN (upd X (616 + 25 * (zms S).length + j) v) n k = rN X n k := fun X j v k hk => upd_ne _ _ (by omega)
    refine gOk_lt q2' (y := 0) (b := 0) rfl (fun w => absurd w (by omega)) (fun _ => ?_)
    have L1 : LI B (zS S 1 1) := L
    refine gOk_bp (mX7_termAt_r (S := zS S 1 1) (q3'.2.1 n hn) L1 hB hn h1 e1' (by show nbs (zno S n) ≤ _; omega) (by show _ ≤ (nlg (zno S n)).length; omega)) (fun r18 h18 => ?_)
    refine gOk_be (mX7_put_ok μ15 q2' (k := 8) rfl hlt (by omega)) ?_
    refine gOk_be (mX7_of_ok _ h1 (k := 4) rfl hn (by omega)) (gOk_be (mX7_put_ok _ q2' (k := 9) rfl hlt (by omega)) (gOk_jon ?_))
    have hc4 : (rN (μ15 1 0) n 4).toInt = ncm (zno S n) := (q3'.2.1 n hn).1.2.2.2.1
    obtain ⟨b0, b1, b2, b3, b4, b5, b6, b7, b8⟩ := q4'
    refine gOk_fx2 (fun w x27 μ28 => ∃ k : Nat, w = 3 * es.length - k ∧ k ≤ 3 * es.length ∧ x27.toInt = (k : Int) ∧ gF1 μ μ28 ∧ RPp (μ28 1 0) (zS S 1 1) ∧ (∀ j, j < 8 → rM (μ28 1 0) (zms S).length j = rM (μ15 1 0) (zms S).length j) ∧ (rM (μ28 1 0) (zms S).length 8).toInt = sqTT (nlg (zno S n)) (nnx (zno S n) i - 1) ∧ (rM (μ28 1 0) (zms S).length 9).toInt = ncm (zno S n) ∧ ∀ j, j < k → ∀ e, es[j / 3]? = some e → sqP e (j % 3) (rM (μ28 1 0) (zms S).length (13 + j))) ?_ 1000000 (3 * es.length) _ _ (by omega) ⟨0, rfl, by omega, rfl, hq.1.tr (gF1.w.tr gF1.w), ?_, fun j hj => ?_, ?_, ?_, fun j hj => absurd hj (Nat.not_lt_zero j)⟩
    · rintro rec w x27 μ28 ⟨k, rfl, k1, k2, k3, k4, k5, k6, k7, k8⟩ ih
      refine gOk_le (ti_mul (x := 3) (a := 3) rfl e9 (by omega) (by omega)) k2 (fun z => gOk_some ⟨k3, ?_⟩) (fun z => ?_)
      · have hk : k = 3 * es.length := by omega
        subst hk
        refine RPp.fin (S := zS S 1 1) k4 ?_
        rw [hm]
        refine ⟨?_, ?_, ?_, ?_, ?_, ?_, ?_, ?_, fun _ => ⟨k6, k7, fun k e hk => ?_⟩, fun r => (by cases r)⟩
        · rw [k5 0 (by omega), b0]; rfl
        · rw [k5 1 (by omega), b1]; exact h1
        · rw [k5 2 (by omega), b2]; exact h2
        · rw [k5 3 (by omega)]; exact b3
        · rw [k5 4 (by omega), b4]; show _ = ((zti S + zde S : Nat) : Int); omega
        · rw [k5 5 (by omega), b5]; exact e1'
        · rw [k5 6 (by omega), b6]; exact e9
        · rw [k5 7 (by omega)]; exact b7
        · have hkl : k < es.length := sq_lt (X := es) hk
          have f0 := k8 (3 * k) (by omega) e (by rw [show 3 * k / 3 = k by omega]; exact hk)
          have f1 := k8 (3 * k + 1) (by omega) e (by rw [show (3 * k + 1) / 3 = k by omega]; exact hk)
          have f2 := k8 (3 * k + 2) (by omega) e (by rw [show (3 * k + 2) / 3 = k by omega]; exact hk)
          exact ⟨f0.1 (by omega), f1.2.1 (by omega), f2.2.2 (by omega)⟩
      · have hk12 : k < 12 := by omega
        have hk3 : k / 3 < es.length := by omega
        have he := List.getElem?_eq_getElem hk3
        have d3 := i32_d3 ⟨k, hk12⟩
        rw [ti_of k2, d3.2, d3.1]
        have hL2 := L.2.2.2.1 n hn
        refine gOk_bp (mX7_entryOf_r (S := zS S 1 1) (k4.2.1 n hn) L1 hB hn h1 (hget _ _ he) (by show nbs (zno S n) ≤ _; omega) (p := k % 3) ?_ (ti_nat (by omega)) (by omega)) (fun r32 h32 => ?_)
        · rw [ti_add u1 (ti_nat (n := k / 3) (by omega)) (by omega) (by omega)]
          omega
        · have e13 : (13 + Int32.ofNat k).toInt = ((13 + k : Nat) : Int) := by rw [ti_add (x := 13) (a := 13) rfl (ti_nat (n := k) (by omega)) (by omega) (by omega)]; omega
          refine gOk_be (mX7_put_ok μ28 q2' e13 hlt (by omega)) (ih _ _ (3 * es.length - (k + 1)) (by omega) ⟨k + 1, rfl, by omega, ?_, k3.tr gF1.w, ?_, fun j hj => ?_, ?_, ?_, fun j hj e hje => ?_⟩)
          · rw [ti_add (ti_nat (n := k) (by omega)) (y := 1) (b := 1) rfl (by omega) (by omega)]; omega
          · rw [w3_10]
            exact k4.put (k := 13 + k) (B := B) (S := zS S 1 1) R.2.1 hlt (by omega)
          · rw [w3_10, rM_upd, upd_ne _ _ (by omega)]; exact k5 j hj
          · rw [w3_10, rM_upd, upd_ne _ _ (by omega)]; exact k6
          · rw [w3_10, rM_upd, upd_ne _ _ (by omega)]; exact k7
          · rw [w3_10, rM_upd]
            by_cases z : j = k
            · subst z
              rw [upd_at]
              rw [he] at hje
              rw [← Option.some.inj hje]; exact h32
            · rw [upd_ne _ _ (by omega)]; exact k8 j (by omega) e hje
    · simp only [w3_10]
      exact (q3'.put (k := 8) (B := B) (S := zS S 1 1) R.2.1 hlt (by omega)).put (k := 9) (B := B) (S := zS S 1 1) R.2.1 hlt (by omega)
    · simp only [w3_10]
      rw [rM_upd, rM_upd, upd_ne _ _ (by omega), upd_ne _ _ (by omega)]
    · simp only [w3_10]
      rw [rM_upd, rM_upd, upd_ne _ _ (by omega), upd_at]; exact h18
    · simp only [w3_10]
      rw [rM_upd, upd_at, en _ _ _ 4 (by omega)]; exact hc4
theorem mX7_sendTo_ok (R : RZ B (μ 1 0) S) (hn : n < 5) (hi : i < 5) (h1 : a1.toInt = (n : Int)) (h2 : a2.toInt = (i : Int)) (hr : nro (zno S n) = 2) (hx2 : nnx (zno S n) i ≤ (nlg (zno S n)).length + 1) : gOk (mX7_sendTo a1 a2 μ) (fun μ' => gF1 μ μ' ∧ RA (μ' 1 0) (zSnd S n i)) := by
  have R' := R
  obtain ⟨⟨r1, r2, r3, r4, r5, r6, r7, r8, r9, r10, r11, r12⟩, -, -, -, u4⟩ := R'.1.2.1 n hn
  obtain ⟨u1, u2, u3⟩ := u4 hr i hi
  have h13 : (13 + a2).toInt = ((13 + i : Nat) : Int) := by rw [ti_add (x := 13) (a := 13) rfl h2 (by omega) (by omega)]; omega
  unfold mX7_sendTo zSnd
  refine gOk_be (mX7_of_ok μ h1 h13 hn (by omega)) (gOk_be (mX7_of_ok μ h1 (k := 7) rfl hn (by omega)) (gOk_lt r5 u1 (fun q => ?_) (fun q => ?_)))
  · rw [if_neg (by omega)]
    exact gOk_bp (mX7_sendEntries_ok R hn hi h1 h2 hr (by omega) hx2) (fun μ' h => gOk_some h)
  · rw [if_pos (by omega)]
    exact gOk_bp (mX7_sendSnapshot_ok R hn hi h1 h2) (fun μ' h => gOk_some h)
end SqRef5
