/-! The reference's calls: pack, message, entry, read, node. -/
def zPart (m : sqMs) (w : Nat) : Nat := if w = 0 then mki m else if w = 1 then mse m else if w = 2 then mre m else if w = 3 then mtm m else if w = 4 then mdu m else if w = 5 then mix m else mfl m
def zEnt (e : sqE) (w : Nat) : Int := if w = 0 then (sqT e : Int) else if w = 1 then (e.2.1 : Int) else e.2.2.toInt
def zEcho (N : sqN) (n T : Nat) : Nat → Bool := fun u => u == n || decide ((T : Int) ≤ nec N u)
def zLs (P : Nat → Bool) : Nat → Int
  | 0 => if P 0 then 6 else -1
  | k + 1 => if P (k + 1) then 6 + ((k + 1 : Nat) : Int) else zLs P k
def zLease (S : sqSt) (n : Nat) : Int := zLs (fun T => sqQb (zc S (zno S n)) (zEcho (zno S n) n T)) (zti S)
def zaPack (S : sqSt) (a : Int) : sqRs := if ¬ (0 ≤ a ∧ a < 5) then (1, 0, S) else if nup (zno S a.toNat) = false then (2, 0, S) else (0, (ncm (zno S a.toNat) - nbs (zno S a.toNat) : Nat), zPack S a.toNat)
def zaMsg (S : sqSt) (i w : Int) : sqRs := if 0 ≤ i ∧ i < (zms S).length then (if 0 ≤ w ∧ w ≤ 6 then (0, (((zms S)[i.toNat]?).map (fun m => (zPart m w.toNat : Int))).getD 0, S) else (2, 0, S)) else (1, 0, S)
def zaEnt (S : sqSt) (a ix w : Int) : sqRs := if (0 ≤ a ∧ a < 5) ∧ (nbs (zno S a.toNat) : Int) + 1 ≤ ix ∧ ix ≤ (nlg (zno S a.toNat)).length then (if 0 ≤ w ∧ w ≤ 2 then (0, (((nlg (zno S a.toNat))[(ix - 1).toNat]?).map (fun e => zEnt e w.toNat)).getD 0, S) else (2, 0, S)) else (1, 0, S)
section SqApi3
variable {μ : gM} {S : sqSt} {B n k i : Nat} {a1 a2 a3 a4 a5 : Int32} {N : sqN} {A A' : Nat → Int32} {m : sqMs} {h : sqH}
theorem mX7_echoing_ok (R : RZ B (μ 1 0) S) (hn : n < 5) (h1 : a1.toInt = (n : Int)) (hr : nro (zno S n) = 2) {ix : Nat} (h2 : a2.toInt = (ix : Int)) (hti : ix ≤ zti S) : gOk (mX7_echoing a1 a2 μ) (fun r => r.toInt = (sqMk (zEcho (zno S n) n ix) : Int)) := by
  have u4 := (R.1.2.1 n hn).2.2.2.2 hr
  have h32 : ∀ W : Nat → Bool, (Int32.ofNat (sqMk W)).toInt = (sqMk W : Int) := fun W => ti_nat (by have := sqMk_lt W; omega)
  unfold mX7_echoing
  have hnow : ¬ μ 1 0 0 < a2 := fun z => by
    have := Int32.lt_iff_toInt_lt.mp z
    rw [R.1.1.1, h2] at this
    omega
  rw [if_neg hnow]
  refine gOk_let (gOk_jon (gOk_fx2 (fun m x7 x8 => ∃ j : Nat, m = 5 - j ∧ j ≤ 5 ∧ x8.toInt = (j : Int) ∧ x7 = Int32.ofNat (sqMk (fun u => u == n || (decide (u < j) && decide ((ix : Int) ≤ nec (zno S n) u))))) ?_ 1000000 5 _ _ (by omega) ⟨0, rfl, by omega, rfl, ?_⟩))
  · rintro rec m x7 x8 ⟨j, rfl, j1, j2, rfl⟩ ih
    refine gOk_le (x := 5) (a := 5) rfl j2 (fun q => gOk_some ?_) (fun q => ?_)
    · have hj : j = 5 := by omega
      subst hj
      rw [h32, sqMk_ext (W := fun u => u == n || (decide (u < 5) && decide ((ix : Int) ≤ nec (zno S n) u))) (V := zEcho (zno S n) n ix) (fun v hv => by
        unfold zEcho
        rw [decide_eq_true hv, Bool.true_and])]
    · have hj5 : j < 5 := by omega
      have h8 := ti_add j2 (y := 1) (b := 1) rfl (by omega) (by omega)
      have next : ∀ x : Int32, x = Int32.ofNat (sqMk (fun u => u == n || (decide (u < j + 1) && decide ((ix : Int) ≤ nec (zno S n) u)))) → gOk (rec x (x8 + 1)) (fun r => r.toInt = (sqMk (zEcho (zno S n) n ix) : Int)) := fun x hx => ih _ _ (5 - (j + 1)) (by omega) ⟨j + 1, rfl, by omega, by rw [h8]; omega, hx⟩
      have same : (n = j ∨ ¬ (ix : Int) ≤ nec (zno S n) j) → sqMk (fun u => u == n || (decide (u < j) && decide ((ix : Int) ≤ nec (zno S n) u))) = sqMk (fun u => u == n || (decide (u < j + 1) && decide ((ix : Int) ≤ nec (zno S n) u))) := by
        intro hc
        apply sqMk_ext
        intro v _
        by_cases hv : v = j
        · subst hv
          rcases hc with hc | hc
          · subst hc; simp
          · have : decide ((ix : Int) ≤ nec (zno S n) v) = false := decide_eq_false hc
            rw [this]; simp
        · have : decide (v < j + 1) = decide (v < j) := by
            by_cases z : v < j
            · rw [decide_eq_true z, decide_eq_true (by omega)]
            · rw [decide_eq_false z, decide_eq_false (by omega)]
          rw [this]
      have or0 : ∀ W : Nat → Bool, Int32.ofNat (sqMk W) ||| 0 = Int32.ofNat (sqMk W) := fun W => by
        have := i32_or ⟨sqMk W, sqMk_lt W⟩ ⟨0, by omega⟩
        rw [Nat.or_zero] at this
        exact this
      refine gOk_jon (gOk_jon (gOk_eq j2 h1 (fun q2 => ?_) (fun q2 => ?_)))
      · refine gOk_let (next _ ?_)
        rw [or0, same (Or.inl (by omega))]
      · have h23 : (23 + x8).toInt = ((23 + j : Nat) : Int) := by rw [ti_add (x := 23) (a := 23) rfl j2 (by omega) (by omega)]; omega
        obtain ⟨u1, u2, u3⟩ := u4 j hj5
        refine gOk_be (mX7_of_ok μ h1 h23 hn (by omega)) (gOk_let (gOk_let (next _ ?_)))
        by_cases w : rN (μ 1 0) n (23 + j) < a2
        · rw [if_pos w]
          have := Int32.lt_iff_toInt_lt.mp w
          rw [u3, h2] at this
          rw [or0, same (Or.inr (by omega))]
        · rw [if_neg w]
          have := Int.not_lt.mp (fun z => w (Int32.lt_iff_toInt_lt.mpr z))
          rw [u3, h2] at this
          rw [ti_of j2, i32_one ⟨j, hj5⟩]
          have hp : (2 : Nat) ^ j < 32 := Nat.lt_of_lt_of_le (Nat.pow_lt_pow_right (by omega) hj5) (by decide)
          have := i32_or ⟨sqMk (fun u => u == n || (decide (u < j) && decide ((ix : Int) ≤ nec (zno S n) u))), sqMk_lt _⟩ ⟨2 ^ j, hp⟩
          rw [this, sqMk_or _ j hj5]
          congr 1
          apply sqMk_ext
          intro v _
          by_cases hv : v = j
          · subst hv
            have : decide ((ix : Int) ≤ nec (zno S n) v) = true := decide_eq_true (by omega)
            rw [this]; simp
          · have h0 : (v == j) = false := beq_eq_false_iff_ne.mpr hv
            have : decide (v < j + 1) = decide (v < j) := by
              by_cases z : v < j
              · rw [decide_eq_true z, decide_eq_true (by omega)]
              · rw [decide_eq_false z, decide_eq_false (by omega)]
            rw [this, h0, Bool.or_false]
  · rw [ti_of h1, i32_one ⟨n, hn⟩]
    congr 1
    rw [← sqMk_one n hn]
    apply sqMk_ext
    intro v _
    simp
theorem zLs_lo (P : Nat → Bool) (k : Nat) : zLs P k = if P k then 6 + (k : Int) else (if k = 0 then -1 else zLs P (k - 1)) := by
  cases k with
  | zero => rw [zLs, if_pos rfl]; rfl
  | succ k => rw [zLs, if_neg (Nat.succ_ne_zero k)]; rfl
theorem mX7_lease_ok (R : RZ B (μ 1 0) S) (hT : zti S < 900000) (hn : n < 5) (h1 : a1.toInt = (n : Int)) (hr : nro (zno S n) = 2) : gOk (mX7_lease a1 μ) (fun r => r.toInt = zLease S n) := by
  have g1 := R.1.1.1
  have key : ∀ (P : Nat → Bool) (hP : ∀ T, P T = sqQb (zc S (zno S n)) (zEcho (zno S n) n T)) (v : Int) (hv : v = zLs P (zti S)), gOk (mX7_lease a1 μ) (fun r => r.toInt = v) := by
    intro P hP v hv
    unfold mX7_lease
    refine gOk_let (gOk_jon (gOk_jon (gOk_fx1 (fun w (x9 : Int32) => (∃ k : Nat, w = k + 1 ∧ k ≤ zti S ∧ x9.toInt = (k : Int) ∧ v = zLs P k) ∨ (x9.toInt = -1 ∧ v = -1)) ?_ 1000000 (zti S + 1) _ (by omega) (Or.inl ⟨zti S, rfl, Nat.le_refl _, g1, hv⟩))))
    intro rec w x9 hI ih
    rcases hI with ⟨k, hw, k1, k2, k3⟩ | ⟨x1, x2⟩
    · subst hw
      refine gOk_lt k2 (y := 0) (b := 0) rfl (fun z => absurd z (by omega)) (fun _ => ?_)
      refine gOk_bp (mX7_echoing_ok R hn h1 hr k2 k1) (fun r13 h13 => gOk_bp (mX7_isQuorum_ok R hn h1 h13) (fun r15 h15 => ?_))
      rw [← hP] at h15
      rw [zLs_lo] at k3
      by_cases p : P k = true
      · rw [if_pos p] at h15 k3
        refine gOk_if (fun z => absurd (h15.symm.trans z) (by decide)) (fun _ => gOk_some ?_)
        rw [k3]
        exact ti_add (x := 6) (a := 6) rfl k2 (by omega) (by omega)
      · rw [if_neg p] at h15 k3
        refine gOk_if (fun _ => ?_) (fun z => absurd h15 z)
        by_cases z : k = 0
        · rw [if_pos z] at k3
          subst z
          have e : (x9 + -1).toInt = -1 := by
            have h0 : x9 = 0 := ti_eq k2 rfl
            rw [h0]; decide +kernel
          exact ih _ 0 (by omega) (Or.inr ⟨e, k3⟩)
        · rw [if_neg z] at k3
          obtain ⟨k', hk'⟩ : ∃ k', k = k' + 1 := ⟨k - 1, by omega⟩
          subst hk'
          obtain ⟨y, hye, hy⟩ := ti_pred k2
          rw [hye]
          exact ih _ (k' + 1) (by omega) (Or.inl ⟨k', rfl, by omega, hy, k3⟩)
    · refine gOk_lt x1 (y := 0) (b := 0) rfl (fun _ => gOk_some ?_) (fun z => absurd z (by decide))
      rw [x2]; exact ti_m1
  exact key _ (fun _ => rfl) _ rfl
theorem zIL.pack (I : zIL B S) (hn : n < 5) : zIL B (zPack S n) := by
  obtain ⟨⟨h, I0⟩, L⟩ := I
  exact ⟨⟨h, I0.pack hn⟩, L.ndx hn rfl (N' := nBs (zno S n) (ncm (zno S n))) (L.2.2.2.1 n hn) (Nat.le_refl _)⟩
theorem nBs_eq (N : sqN) : nCm (nBs (nLg N (nlg N)) (ncm N)) (ncm N) = nBs N (ncm N) := rfl
theorem mX7_pack_ok (R : RZ B (μ 1 0) S) : gOk (mX7_pack a1 μ) (rPost μ B (zaPack S a1.toInt)) := by
  unfold mX7_pack zaPack
  refine gOk_bp (mX7_isNode_ok μ a1) (fun r2 h2 => gOk_guard (fun q => ?_) (fun q => ?_))
  · have hc : 0 ≤ a1.toInt ∧ a1.toInt < 5 := Classical.byContradiction fun z => q (h2.2.mpr z)
    rw [if_neg (show ¬ ¬ (0 ≤ a1.toInt ∧ a1.toInt < 5) from fun z => z hc)]
    obtain ⟨n, hn, h1, he⟩ := nd_of hc
    rw [he]
    have R1 := R.th (k := 0)
    have hR := R1.1.2.1 n hn
    have r0 := hR.1.1
    refine gOk_be (mX7_of_ok _ h1 (k := 0) rfl hn (by omega)) (gOk_guard (fun q2 => ?_) (fun q2 => ?_))
    · have hu : nup (zno S n) = true := by
        cases z : nup (zno S n) with
        | true => rfl
        | false => rw [z, if_neg (by decide)] at r0; exact absurd (ti_eq r0 (y := 0) rfl) q2
      rw [if_neg (by rw [hu]; decide)]
      have R2 := R1.th (k := 0)
      generalize hμ : w3 (w3 μ 0 0 0 0) 0 0 0 0 = μ2 at *
      have hR2 := R2.1.2.1 n hn
      have hb := R.bd hn
      have hB := R.2.2
      have hll := (R.2.1.2.2.2.2.1 n hn).2.1
      have hR2' := hR2
      obtain ⟨⟨s1, s2, s3, s4, s5, s6, s7, s8, s9, s10, s11, s12⟩, -⟩ := hR2'
      have x25 : (rN (μ2 1 0) n 4 - rN (μ2 1 0) n 7).toInt = ((ncm (zno S n) - nbs (zno S n) : Nat) : Int) := by rw [ti_sub s4 s5 (by omega) (by omega)]; omega
      refine gOk_be (mX7_of_ok _ h1 (k := 4) rfl hn (by omega)) (gOk_be (mX7_of_ok _ h1 (k := 7) rfl hn (by omega)) (gOk_let ?_))
      refine gOk_bp (mX7_configurationAt_ok R2.1 R2.2.1.2 hB hn h1 s4 (by omega) hb.1) (fun r30 h30 => ?_)
      refine gOk_bp (mX7_oldOf_ok R2.1 R2.2.1.2 hB hn h1 (by omega) hb.1 h30) (fun r32 h32 => gOk_bp (mX7_newOf_ok R2.1 R2.2.1.2 hB hn h1 (by omega) hb.1 h30) (fun r34 h34 => ?_))
      refine gOk_bp (mX7_resultOf_ok R2 hn h1) (fun r36 h36 => gOk_bp (mX7_termAt_ok R2.1 R2.2.1.2 hB hn h1 s4 (by omega) hb.1) (fun r38 h38 => ?_))
      generalize rN (μ2 1 0) n 4 = x4 at *
      refine gOk_bp (mX7_dropFirst_ok (sz := (nlg (zno S n)).length - nbs (zno S n)) (d := ncm (zno S n) - nbs (zno S n)) (by rw [s10]; omega) (by omega) (by omega) hn h1 x25) (fun μ40 h40 => ?_)
      obtain ⟨f1, f2, f3, f4, f5⟩ := h40
      refine gOk_be (mX7_set_ok _ h1 (k := 7) rfl hn (by omega)) (gOk_be (mX7_set_ok _ h1 (k := 8) rfl hn (by omega)) (gOk_be (mX7_set_ok _ h1 (k := 9) rfl hn (by omega)) (gOk_be (mX7_set_ok _ h1 (k := 10) rfl hn (by omega)) (gOk_be (mX7_set_ok _ h1 (k := 11) rfl hn (by omega)) (gOk_some ?_)))))
      have F : gF1 μ2 (w3 (w3 (w3 (w3 (w3 μ40 1 0 (116 + 100 * n + 7) x4) 1 0 (116 + 100 * n + 8) r38) 1 0 (116 + 100 * n + 9) r36) 1 0 (116 + 100 * n + 10) r32) 1 0 (116 + 100 * n + 11) r34) := f1.tr (gF1.w.tr (gF1.w.tr (gF1.w.tr (gF1.w.tr gF1.w))))
      subst hμ
      refine rPost.th (rPost_yes F.two x25 ⟨?_, R.2.1.pack hn, hB⟩)
      simp only [w3_10]
      refine R2.1.nd R2.2.1 hn (fun k hk => ?_) ?_
      · rw [upd_ne _ _ (by omega), upd_ne _ _ (by omega), upd_ne _ _ (by omega), upd_ne _ _ (by omega), upd_ne _ _ (by omega)]; exact f2 k hk
      · rw [rN_upd, rN_upd, rN_upd, rN_upd, rN_upd]
        have low : ∀ k, k ≠ 7 → k ≠ 8 → k ≠ 9 → k ≠ 10 → k ≠ 11 → upd (upd (upd (upd (upd (rN (μ40 1 0) n) 7 x4) 8 r38) 9 r36) 10 r32) 11 r34 k = rN (μ40 1 0) n k := fun k k7 k8 k9 k10 k11 => by
          rw [upd_ne _ _ k11, upd_ne _ _ k10, upd_ne _ _ k9, upd_ne _ _ k8, upd_ne _ _ k7]
        rw [← nBs_eq]
        refine hR2.rb (fun k k1 k2 k3 => ?_) ?_ ?_ ?_ ?_ ?_ ?_ ?_ (by omega) (fun j f hj => ?_)
        · rw [low k (by omega) (by omega) (by omega) (by omega) (by omega)]; exact f3 k k1 (by omega)
        · rw [low 4 (by omega) (by omega) (by omega) (by omega) (by omega), f3 4 (by omega) (by omega)]; exact hR2.1.2.2.2.1
        · rw [upd_ne _ _ (by omega), upd_ne _ _ (by omega), upd_ne _ _ (by omega), upd_ne _ _ (by omega), upd_at]; exact s4
        · rw [upd_ne _ _ (by omega), upd_ne _ _ (by omega), upd_ne _ _ (by omega), upd_at]; exact h38
        · rw [upd_ne _ _ (by omega), upd_ne _ _ (by omega), upd_at]; exact h36
        · rw [upd_ne _ _ (by omega), upd_at]; exact h32
        · rw [upd_at]; exact h34
        · rw [low 12 (by omega) (by omega) (by omega) (by omega) (by omega), f4]; omega
        · have hjl := sq_lt hj
          have hold := s12 (ncm (zno S n) - nbs (zno S n) + j) f (by rw [show nbs (zno S n) + (ncm (zno S n) - nbs (zno S n) + j) = ncm (zno S n) + j by omega]; exact hj)
          rw [low (28 + 3 * j) (by omega) (by omega) (by omega) (by omega) (by omega), low (28 + 3 * j + 1) (by omega) (by omega) (by omega) (by omega) (by omega), low (28 + 3 * j + 2) (by omega) (by omega) (by omega) (by omega) (by omega)]
          rw [f5 (3 * j) (by omega), show 28 + 3 * j + 1 = 28 + (3 * j + 1) by omega, f5 (3 * j + 1) (by omega), show 28 + 3 * j + 2 = 28 + (3 * j + 2) by omega, f5 (3 * j + 2) (by omega)]
          rw [show 28 + 3 * j + 3 * (ncm (zno S n) - nbs (zno S n)) = 28 + 3 * (ncm (zno S n) - nbs (zno S n) + j) by omega, show 28 + (3 * j + 1) + 3 * (ncm (zno S n) - nbs (zno S n)) = 28 + 3 * (ncm (zno S n) - nbs (zno S n) + j) + 1 by omega, show 28 + (3 * j + 2) + 3 * (ncm (zno S n) - nbs (zno S n)) = 28 + 3 * (ncm (zno S n) - nbs (zno S n) + j) + 2 by omega]
          exact hold
    · have hu : nup (zno S n) = false := by
        cases z : nup (zno S n) with
        | false => rfl
        | true => rw [z, if_pos rfl, q2] at r0; exact absurd r0 (by decide)
      rw [if_pos hu]
      exact gOk_some (rPost.th (rPost_no R1 rfl (by omega) 0))
  · rw [if_pos (h2.2.mp q)]
    exact gOk_some (rPost_no R rfl (by omega) 0)
theorem RM.part {r : Nat → Int32} {g : Nat} (h : RM r g m) {w : Nat} (hw : w ≤ 6) : (r w).toInt = (zPart m w : Int) := by
  obtain ⟨h0, h1, h2, h3, h4, h5, h6, -⟩ := h
  have : w = 0 ∨ w = 1 ∨ w = 2 ∨ w = 3 ∨ w = 4 ∨ w = 5 ∨ w = 6 := by omega
  rcases this with rfl | rfl | rfl | rfl | rfl | rfl | rfl
  · exact h0
  · exact h1
  · exact h2
  · exact h3
  · exact h4
  · exact h5
  · exact h6
theorem mX7_message_ok (R : RZ B (μ 1 0) S) : gOk (mX7_message a1 a2 μ) (rPost μ B (zaMsg S a1.toInt a2.toInt)) := by
  have g4 := R.1.1.2.2.2.1
  have hc := R.cnt
  unfold mX7_message zaMsg
  refine gOk_bp (mX7_isBetween_ok μ (a := a1.toInt) rfl (b := 0) rfl (ti_sub g4 (y := 1) (b := 1) rfl (by omega) (by omega))) (fun r2 h2 => gOk_guard (fun q => ?_) (fun q => ?_))
  · have hc : 0 ≤ a1.toInt ∧ a1.toInt ≤ ((zms S).length : Int) - 1 := Classical.byContradiction fun z => q (h2.2.mpr z)
    rw [if_pos (show 0 ≤ a1.toInt ∧ a1.toInt < ((zms S).length : Int) from ⟨hc.1, by omega⟩)]
    obtain ⟨w, hw, hwe⟩ : ∃ w : Nat, a1.toInt = (w : Int) ∧ a1.toInt.toNat = w := ⟨a1.toInt.toNat, by omega, rfl⟩
    rw [hwe]
    have R1 := R.th (k := 0)
    refine gOk_bp (mX7_isBetween_ok _ (a := a2.toInt) rfl (b := 0) rfl (c := 6) rfl) (fun r12 h12 => gOk_guard (fun q2 => ?_) (fun q2 => ?_))
    · have hc2 : 0 ≤ a2.toInt ∧ a2.toInt ≤ 6 := Classical.byContradiction fun z => q2 (h12.2.mpr z)
      rw [if_pos hc2]
      have R2 := R1.th (k := 0)
      have hwl : w < (zms S).length := by omega
      have hm := List.getElem?_eq_getElem hwl
      have hM := R2.1.2.2 w _ hm
      rw [hm]
      refine gOk_be (mX7_part_ok _ hw (k := a2.toInt.toNat) (by omega) (by omega) (by omega)) (gOk_some (rPost.th (rPost_yes gF2.rf ?_ R2)))
      exact hM.part (by omega)
    · rw [if_neg (h12.2.mp q2)]
      exact gOk_some (rPost.th (rPost_no R1 rfl (by omega) 0))
  · rw [if_neg (fun z => (h2.2.mp q) ⟨z.1, by omega⟩)]
    exact gOk_some (rPost_no R rfl (by omega) 0)
end SqApi3
