/-! The reference: sending to all, appending, winning. -/
section SqRef10
variable {μ : gM} {S : sqSt} {B n k i : Nat} {a1 a2 a3 a4 a5 : Int32} {N : sqN} {A A' : Nat → Int32} {m : sqMs}
theorem zIL.snd (I : zIL B S) (hn : n < 5) (hi : i < 5) (hin : i ≠ n) (hr : nro (zno S n) = 2) : zIL B (zSnd S n i) := by
  obtain ⟨⟨h, I0⟩, L⟩ := I
  have hb := zCmx_bd I0 hn
  have D := sqNI.ld (I0.2.2.1 n hn) hr
  exact ⟨⟨h, I0.snd hn hi D⟩, L.snd hn hin ⟨hb.1, hb.2.1, (D.2.2 i hi).2⟩⟩
theorem zIL.nx (I : zIL B S) (hn : n < 5) (hi : i < 5) (hr : nro (zno S n) = 2) : 1 ≤ nnx (zno S n) i ∧ nnx (zno S n) i ≤ (nlg (zno S n)).length + 1 := by
  obtain ⟨⟨h, I0⟩, L⟩ := I
  exact (sqNI.ld (I0.2.2.1 n hn) hr).2.2 i hi
theorem mX7_sendToAll_ok (R : RZ B (μ 1 0) S) (hn : n < 5) (h1 : a1.toInt = (n : Int)) (hr : nro (zno S n) = 2) : gOk (mX7_sendToAll a1 μ) (fun μ' => gF1 μ μ' ∧ RZ B (μ' 1 0) (zAll S n)) := by
  unfold mX7_sendToAll
  refine gOk_bp (mX7_members_ok R hn h1) (fun r2 h2 => gOk_jon ?_)
  obtain ⟨c, c1, c2, c3⟩ := h2
  refine gOk_fx2 (fun m (x5 : Int32) (μ6 : gM) => ∃ j : Nat, m = 5 - j ∧ j ≤ 5 ∧ x5.toInt = (j : Int) ∧ gF1 μ μ6 ∧ RZ B (μ6 1 0) ((List.range j).foldl (fun S i => if i ≠ n ∧ zmem S (zno S n) i = true then zSnd S n i else S) S) ∧ zno ((List.range j).foldl (fun S i => if i ≠ n ∧ zmem S (zno S n) i = true then zSnd S n i else S) S) = zno S ∧ zg ((List.range j).foldl (fun S i => if i ≠ n ∧ zmem S (zno S n) i = true then zSnd S n i else S) S) = zg S) ?_ 1000000 5 _ _ (by omega) ⟨0, rfl, by omega, rfl, gF1.rf, R, rfl, rfl⟩
  intro rec m x5 μ6 hI ih
  obtain ⟨j, hm, j1, j2, j3, j4, j5, j6⟩ := hI
  subst hm
  refine gOk_le (x := 5) (a := 5) rfl j2 (fun q => gOk_some ?_) (fun q => ?_)
  · have hj : j = 5 := by omega
    subst hj
    exact ⟨j3, j4⟩
  · have hj5 : j < 5 := by omega
    have h8 := ti_add j2 (y := 1) (b := 1) rfl (by omega) (by omega)
    have hs : (List.range (j + 1)).foldl (fun S i => if i ≠ n ∧ zmem S (zno S n) i = true then zSnd S n i else S) S = if j ≠ n ∧ zmem ((List.range j).foldl (fun S i => if i ≠ n ∧ zmem S (zno S n) i = true then zSnd S n i else S) S) (zno ((List.range j).foldl (fun S i => if i ≠ n ∧ zmem S (zno S n) i = true then zSnd S n i else S) S) n) j = true then zSnd ((List.range j).foldl (fun S i => if i ≠ n ∧ zmem S (zno S n) i = true then zSnd S n i else S) S) n j else (List.range j).foldl (fun S i => if i ≠ n ∧ zmem S (zno S n) i = true then zSnd S n i else S) S := by
      rw [List.range_succ, List.foldl_append]; rfl
    have next : ∀ μ7 : gM, gF1 μ μ7 → RZ B (μ7 1 0) ((List.range (j + 1)).foldl (fun S i => if i ≠ n ∧ zmem S (zno S n) i = true then zSnd S n i else S) S) → zno ((List.range (j + 1)).foldl (fun S i => if i ≠ n ∧ zmem S (zno S n) i = true then zSnd S n i else S) S) = zno S → zg ((List.range (j + 1)).foldl (fun S i => if i ≠ n ∧ zmem S (zno S n) i = true then zSnd S n i else S) S) = zg S → gOk (rec (x5 + 1) μ7) (fun μ' => gF1 μ μ' ∧ RZ B (μ' 1 0) (zAll S n)) := fun μ7 f1 f2 f3 f4 => ih _ _ (5 - (j + 1)) (by omega) ⟨j + 1, rfl, by omega, by rw [h8]; omega, f1, f2, f3, f4⟩
    generalize (List.range j).foldl (fun S i => if i ≠ n ∧ zmem S (zno S n) i = true then zSnd S n i else S) S = Sj at *
    have hzm : zmem Sj (zno Sj n) j = c.testBit j := by
      rw [c3, j5]
      unfold zmem zc
      rw [j6]
    refine gOk_eq j2 h1 (fun q2 => ?_) (fun q2 => ?_)
    · rw [if_neg (fun w => w.1 (by omega))] at hs
      exact next _ j3 (by rw [hs]; exact j4) (by rw [hs]; exact j5) (by rw [hs]; exact j6)
    · refine gOk_bp (mX7_has_ok μ6 c1 hj5 c2 j2) (fun r11 h11 => ?_)
      by_cases w : c.testBit j = true
      · rw [if_pos w] at h11
        refine gOk_if (fun z => absurd (h11.symm.trans z) (by decide)) (fun _ => ?_)
        rw [if_pos ⟨by omega, by rw [hzm]; exact w⟩] at hs
        have hrj : nro (zno Sj n) = 2 := by rw [j5]; exact hr
        have hz := j4.2.1.nx hn hj5 hrj
        refine gOk_bp (mX7_sendTo_ok j4 hn hj5 h1 j2 hrj hz.2) (fun μ14 h14 => next _ (j3.tr h14.1) ?_ ?_ ?_)
        · rw [hs]; exact ⟨h14.2, j4.2.1.snd hn hj5 (by omega) hrj, j4.2.2⟩
        · rw [hs, zSnd_no]; exact j5
        · rw [hs, zSnd_g]; exact j6
      · rw [if_neg w] at h11
        refine gOk_if (fun _ => ?_) (fun z => absurd h11 z)
        rw [if_neg (fun v => w (by rw [← hzm]; exact v.2))] at hs
        exact next _ j3 (by rw [hs]; exact j4) (by rw [hs]; exact j5) (by rw [hs]; exact j6)
theorem zAdd_at (S : sqSt) (n k : Nat) (v : Int32) : zno (zAdd S n k v) n = nLg (zno S n) (nlg (zno S n) ++ [(ntm (zno S n), k, v)]) := by unfold zAdd; exact zN_at _ _ _
theorem zIL.add (I : zIL B S) (hn : n < 5) (hr : nro (zno S n) = 2) (hl : (nlg (zno S n)).length < nbs (zno S n) + 24) {v : Int32} (hc : ∀ c, sqC (ntm (zno S n), k, v) = some c → sqG c ∧ sqJ (zc S (zno S n)) c ∧ sqCI (nlg (zno S n)) ≤ ncm (zno S n)) (hE : LE1 (B + 1) (ntm (zno S n), k, v)) : zIL (B + 1) (zAdd S n k v) := by
  obtain ⟨⟨h, I0⟩, L⟩ := I
  have a := I0.2.2.1 n hn
  obtain ⟨c1, c2, c3⟩ := sq_app (N' := nLg (zno S n) (nlg (zno S n) ++ [(ntm (zno S n), k, v)])) I0.2.1 a hr (e := (ntm (zno S n), k, v)) rfl (fun c q => by
    obtain ⟨g1, g2, g3⟩ := hc c q
    refine ⟨g1, by rw [I0.1]; exact g2, fun j' e' hj hc' => Nat.lt_of_lt_of_le (sqCI_lt _ j' e' hj hc') g3⟩) rfl rfl rfl rfl rfl hr rfl rfl hl
  exact ⟨⟨_, I0.grow c1 c2 c3⟩, L.ndx hn rfl ((L.2.2.2.1 n hn).ap hr hE) (Nat.le_succ B)⟩
theorem mX7_append_ok (R : RZ B (μ 1 0) S) (hn : n < 5) (h1 : a1.toInt = (n : Int)) (hr : nro (zno S n) = 2) (hl : (nlg (zno S n)).length < nbs (zno S n) + 24) (h2 : a2.toInt = (k : Int)) (hI : zIL (B + 1) (zAdd S n k a3)) (hB : B + 2 < 1000000000) : gOk (mX7_append a1 a2 a3 μ) (fun μ' => gF1 μ μ' ∧ RZ (B + 2) (μ' 1 0) (zSub S n k a3)) := by
  have hR := R.1.2.1 n hn
  unfold mX7_append
  refine gOk_be (mX7_of_ok μ h1 (k := 2) rfl hn (by omega)) (gOk_bp (mX7_add_ok R hn h1 hl (e := (ntm (zno S n), k, a3)) hR.1.2.1 h2 rfl) (fun μ4 h4 => ?_))
  have R4 : RZ (B + 1) (μ4 1 0) (zAdd S n k a3) := ⟨h4.2, hI, by omega⟩
  have hr4 : nro (zno (zAdd S n k a3) n) = 2 := by rw [zAdd_at]; exact hr
  refine gOk_bp (mX7_commit_ok R4 hn h1 hr4) (fun μ6 h6 => gOk_some ⟨h4.1.tr h6.1, h6.2, hI.com hn hr4, hB⟩)
/-- a winner that is a member stays leader when it commits -/
theorem zCom_role (hm : zmem S (zno S n) n = true) (hr : nro (zno S n) = 2) : nro (zno (zCom S n) n) = 2 := by
  unfold zCom
  by_cases q1 : sqCI (nlg (zno S n)) ≤ zCmx S n (zno S n)
  · rw [if_pos q1]
    by_cases q2 : (zc S (zno S n)).1 ≠ 0
    · rw [if_pos q2]
      by_cases q3 : (nlg (zno S n)).length < nbs (zno S n) + 24
      · rw [if_pos q3, zN_at]; exact hr
      · rw [if_neg q3, zN_at]; exact hr
    · rw [if_neg q2]
      have : (zc S (zno S n)).2.testBit n = true := by
        have z : (zc S (zno S n)).1 = 0 := Classical.byContradiction q2
        unfold zmem at hm
        rw [z, Nat.zero_testBit, Bool.false_or] at hm
        exact hm
      rw [if_pos this, zN_at]; exact hr
  · rw [if_neg q1, zN_at]; exact hr
theorem zIL.lead (I : zIL B S) (hn : n < 5) (hr : nro (zno S n) = 1) (hQ : sqQb (zc S (zno S n)) (nvs (zno S n)) = true) : zIL B (zLead S n) := by
  obtain ⟨⟨h, I0⟩, L⟩ := I
  have a0 := I0.2.2.1 n hn
  have hQ' := sqQb_iff.mp hQ
  unfold zc at hQ'
  rw [← I0.1] at hQ'
  obtain ⟨b1, b2, b3⟩ := sq_win (N' := nLead (zno S n)) I0.2.1 a0 hr hQ' rfl rfl rfl rfl rfl rfl (fun u => ⟨rfl, rfl⟩)
  have I1 : zI (hWin h n (ntm (zno S n)) (nlg (zno S n)) (nvs (zno S n))) (zLead S n) := zI.grow (S := zW (zS S 4 1) (ntm (zno S n)) (Int32.ofNat n)) I0 b1 b2 b3
  exact ⟨⟨_, I1⟩, L.lead hn ((L.2.2.2.1 n hn).2.2.2.2.1 (by rw [hr]; exact Nat.one_ne_zero))⟩
theorem RN0.lastx {g : Nat} (h : RN0 (rN (μ 1 0) n) g N) (hB : (nlg N).length < 1000000000) (hn : n < 5) (h1 : a1.toInt = (n : Int)) : gOk (mX7_last a1 μ) (fun r => r.toInt = (nlg N).length) := by
  obtain ⟨r1, r2, r3, r4, r5, r6, r7, r8, r9, r10, r11, r12⟩ := h
  unfold mX7_last
  refine gOk_be (mX7_of_ok μ h1 (k := 7) rfl hn (by omega)) (gOk_be (mX7_of_ok μ h1 (k := 12) rfl hn (by omega)) (gOk_some ?_))
  rw [ti_add r5 r10 (by omega) (by omega)]
  omega
/-- a row of numbers where a node has come to lead -/
theorem RA.lead (R : RA A S) (hZ : zIL B S) (hn : n < 5) (h4 : A' 13 = A 13 + 1) (hw : ∀ t, t < 100 → A' (16 + t) = if t = ntm (zno S n) then Int32.ofNat n else A (16 + t)) (he : ∀ k, k ≠ 13 → (k < 16 ∨ 116 ≤ k) → ¬ (k = 116 + 100 * n + 1 ∨ k = 116 + 100 * n + 5 ∨ (116 + 100 * n + 13 ≤ k ∧ k < 116 + 100 * n + 28)) → A' k = A k) (h1 : (rN A' n 1).toInt = 2) (h5 : rN A' n 5 = 3) (hx : ∀ u, u < 5 → (rN A' n (13 + u)).toInt = (((nlg (zno S n)).length + 1 : Nat) : Int) ∧ (rN A' n (18 + u)).toInt = 0 ∧ (rN A' n (23 + u)).toInt = -1) : RA A' (zLead S n) := by
  obtain ⟨g1, g2, g3, g4, g5, g6, g7⟩ := R.1
  unfold zLead
  refine ⟨⟨?_, ?_, ?_, ?_, fun i hi => ?_, fun k k1 k2 => ?_, fun t ht => ?_⟩, fun v hv => ?_, fun i m hm => ?_⟩
  · rw [he 0 (by omega) (by omega) (by omega)]; exact g1
  · rw [he 1 (by omega) (by omega) (by omega)]; exact g2
  · rw [he 2 (by omega) (by omega) (by omega)]; exact g3
  · rw [he 3 (by omega) (by omega) (by omega)]; exact g4
  · rw [he (4 + i) (by omega) (by omega) (by omega)]; exact g5 i hi
  · show A' (9 + k) = sqU1 (zst S) 4 (zst S 4 + 1) k
    by_cases q : k = 4
    · subst q
      rw [sqU1_at, ← g6 4 k1 k2]; exact h4
    · rw [sqU1_ne q, he (9 + k) (by omega) (by omega) (by omega)]; exact g6 k k1 k2
  · show A' (16 + t) = (if ntm (zno S n) < 100 then sqU1 (zwi S) (ntm (zno S n)) (Int32.ofNat n) else zwi S) t
    rw [hw t ht]
    by_cases q : t = ntm (zno S n)
    · rw [if_pos q, if_pos (by omega), q, sqU1_at]
    · rw [if_neg q, g7 t ht]
      by_cases z : ntm (zno S n) < 100
      · rw [if_pos z, sqU1_ne q]
      · rw [if_neg z]
  · show RN (rN A' v) (zg S) (sqU1 (zno S) n (nLead (zno S n)) v)
    by_cases q : v = n
    · subst q
      rw [sqU1_at]
      have hR := R.2.1 v hv
      refine ⟨RN0.cg (N := zno S v) hR.1 (fun k a b => he _ (by omega) (by omega) (by omega)), h1, h5, fun r => (by cases r), fun _ u hu => hx u hu⟩
    · rw [sqU1_ne q]
      exact (R.2.1 v hv).cg (fun k hk => he _ (by omega) (by omega) (by omega))
  · have hm' : (zms S)[i]? = some m := hm
    have hl := (List.getElem?_eq_some_iff.mp hm').1
    have hc := hZ.2.2.2.2.2.2
    exact (R.2.2 i m hm').cg (hZ.2.ml hZ (List.mem_of_getElem? hm')) (fun k hk => he _ (by omega) (by omega) (by omega))
end SqRef10
