/-! The class: restarts, entries that are submitted, leases, links. -/
theorem sqQb_ext {c : Nat × Nat} {W V : Nat → Bool} (h : ∀ v, v < 5 → W v = V v) : sqQb c W = sqQb c V := by
  unfold sqQb
  rw [sqMb_pc, sqMb_pc, sqMb_pc, sqMb_pc, sqMk_ext h]
/-- the greatest place with P, and six more -/
theorem zLs_eq {P : Nat → Bool} {b : Nat} (hb : P b = true) : ∀ k, b ≤ k → (∀ T, b < T → T ≤ k → P T = false) → zLs P k = (b : Int) + 6 := by
  intro k
  induction k with
  | zero =>
    intro h1 _
    have : b = 0 := by omega
    subst this
    rw [zLs_lo, if_pos hb]; rfl
  | succ k ih =>
    intro h1 h2
    rw [zLs_lo]
    by_cases z : b = k + 1
    · subst z
      rw [if_pos hb]; omega
    · have := h2 (k + 1) (by omega) (Nat.le_refl _)
      rw [this, if_neg (by decide), if_neg (Nat.succ_ne_zero k)]
      exact ih (by omega) (fun T a c => h2 T a (by omega))
theorem zLs_no {P : Nat → Bool} : ∀ k, (∀ T, T ≤ k → P T = false) → zLs P k = -1 := by
  intro k
  induction k with
  | zero =>
    intro h
    rw [zLs_lo, h 0 (Nat.le_refl _), if_neg (by decide), if_pos rfl]
  | succ k ih =>
    intro h
    rw [zLs_lo, h (k + 1) (Nat.le_refl _), if_neg (by decide), if_neg (Nat.succ_ne_zero k)]
    exact ih (fun T a => h T (by omega))
section SqClo
variable {μ μ' μ1 : gM} {n g b k i nc B t t1 s q kk : Nat} {l : List sqE} {a1 a2 a3 a4 : Int32} {e : sqE} {m : sqMs} {S S' : sqSt} {N : sqN} {h : sqH}
theorem BN.up0 (h : BN μ k n g N) {x : Int32} {b : Bool} (hx : x.toInt = if b then 1 else 0) : BN (w3 μ 11 k 5 x) k n g (nUp N b) := by
  obtain ⟨⟨h0, h5, h7, h8, h9, hl, hf⟩, h6, h10, h11, h13⟩ := h
  refine ⟨⟨by rw [w3_o _ _ (by omega)]; exact h0, by rw [w3_at]; exact hx, by rw [w3_o _ _ (by omega)]; exact h7, by rw [w3_o _ _ (by omega)]; exact h8, by rw [w3_o _ _ (by omega)]; exact h9, hl.cg (fun j _ _ => w3_o _ _ (by omega)) (fun f j _ _ _ => w3_o _ _ (by omega)), ?_⟩, by rw [w3_o _ _ (by omega)]; exact h6, by rw [w3_o _ _ (by omega)]; exact h10, fun r => by rw [w3_o _ _ (by omega)]; exact h11 r, fun r u hu => ?_⟩
  · unfold CF
    rw [w3_o _ _ (by omega), w3_o _ _ (by omega), w3_o _ _ (by omega)]
    exact hf
  · rw [w3_o _ _ (by omega), w3_o _ _ (by omega), w3_o _ _ (by omega)]
    exact h13 r u hu
theorem mX0_revive_ok (h : RB μ q S) (hn : n < 5) : gOk (mX0_revive nc q (5 * q + n) μ) (fun μ' => gFr (bnP (5 * q + n)) μ μ' ∧ RB μ' q (zBack S n)) := by
  have hb := h.2.1 n hn
  unfold mX0_revive zBack
  refine gOk_lee (fun μ1 h1 => gOk_lee (fun μ3 h3 => ?_))
  have e4 : μ1 12 (5 * q + n) 4 = μ 12 (5 * q + n) 4 := by rw [h1, w3_o _ _ (by omega)]
  rw [e4] at h3
  have F3 : gFr (bnP (5 * q + n)) μ μ3 := by
    rw [h3, h1]
    exact (gFr.w ⟨rfl, by omega⟩).tr (gFr.w ⟨rfl, by omega⟩)
  have b3 : BN μ3 (5 * q + n) n (zg S) (nCm (nUp (zno S n) true) (nbs (zno S n))) := by
    rw [h3, h1]
    exact (hb.up0 (b := true) rfl).cm hb.1.2.2.2.2.2.1.2.2.2.1
  refine gOk_bp (mX0_resetTimer_ok (h.node hn F3 b3) hn) (fun μ6 h6 => gOk_some ⟨F3.tr h6.1, ?_⟩)
  have h2 := h6.2
  rw [zN_at, zN_zN, zTim_zN] at h2
  have et : ntm (nCm (nUp (zno S n) true) (nbs (zno S n))) = ntm (zno S n) := rfl
  rw [et] at h2
  exact h2
theorem mX0_add_ok (h : RY B μ q S) (hB : B + 1 < 900000000) (hn : n < 5) (hr : nro (zno S n) = 2) (hl : (nlg (zno S n)).length < nbs (zno S n) + 24) (h2 : a2.toInt = (k : Int)) (hI : zIL (B + 1) (zAdd S n k a3)) : gOk (mX0_add nc q (5 * q + n) a2 a3 μ) (fun p => p.1.toInt = (nlg (zno S n)).length + 1 ∧ gFr (bnP (5 * q + n)) μ p.2 ∧ RB p.2 q (zSub S n k a3)) := by
  have hb := h.1.2.1 n hn
  have hlen := h.len hn
  have hcl := hb.1.2.2.2.2.2.1
  have hLL2 := (hI.2.2.2.2.1 n hn).2.2.1
  rw [zAdd_at] at hLL2
  have hLL2 : LL (B + 1) (nlg (zno S n) ++ [(ntm (zno S n), k, a3)]) := hLL2
  unfold mX0_add
  refine gOk_bp (mX1_lastIndex_ok hcl (by omega)) (fun r2 hr2 => gOk_let ?_)
  refine gOk_bd (mX1_append_ok (e := (ntm (zno S n), k, a3)) hcl hLL2 hlen hb.1.2.2.1 h2 rfl) (fun r8 μ9 hp => ?_)
  obtain ⟨-, f9, c9, g9⟩ := hp.1 hl
  have f9 : gFr (clP (5 * q + n)) μ μ9 := f9
  have R9 : RB μ9 q (zAdd S n k a3) := h.1.node hn (f9.up clP_bn) (hb.lg f9 c9 g9)
  refine gOk_bp (mX0_commit_ok ⟨R9, hI, hB⟩ hn (by rw [zAdd_at]; exact hr)) (fun μ11 h11 => gOk_some ⟨?_, (f9.up clP_bn).tr h11.1, h11.2⟩)
  rw [ti_add hr2 (y := 1) (b := 1) rfl (by omega) (by omega)]
/-- a time with a quorum goes up to one of those that are noted -/
theorem zEcho_up (hn : n < 5) {c : Nat × Nat} {ti : Nat} (hle : ∀ u, u < 5 → nec N u ≤ (ti : Int)) : ∀ (d T : Nat), T + d = ti → sqQb c (zEcho N n T) = true → ∃ x : Nat, T ≤ x ∧ x ≤ ti ∧ sqQb c (zEcho N n x) = true ∧ (x = ti ∨ ∃ u, u < 5 ∧ u ≠ n ∧ nec N u = (x : Int)) := by
  intro d
  induction d with
  | zero => intro T hT hq; exact ⟨T, Nat.le_refl _, by omega, hq, Or.inl (by omega)⟩
  | succ d ih =>
    intro T hT hq
    by_cases z : ∃ u, u < 5 ∧ u ≠ n ∧ nec N u = (T : Int)
    · exact ⟨T, Nat.le_refl _, by omega, hq, Or.inr z⟩
    · have hs : sqQb c (zEcho N n (T + 1)) = true := by
        rw [← hq]
        refine sqQb_ext (fun v hv => ?_)
        show (v == n || decide (((T + 1 : Nat) : Int) ≤ nec N v)) = (v == n || decide ((T : Int) ≤ nec N v))
        by_cases w : v = n
        · rw [beq_iff_eq.mpr w, Bool.true_or, Bool.true_or]
        · have : nec N v ≠ (T : Int) := fun y => z ⟨v, hv, w, y⟩
          by_cases y : (T : Int) ≤ nec N v
          · rw [decide_eq_true y, decide_eq_true (p := ((T + 1 : Nat) : Int) ≤ nec N v) (by omega)]
          · rw [decide_eq_false y, decide_eq_false (p := ((T + 1 : Nat) : Int) ≤ nec N v) (by omega)]
      obtain ⟨x, x1, x2, x3, x4⟩ := ih (T + 1) (by omega) hs
      exact ⟨x, by omega, x2, x3, x4⟩
theorem mX4_lease_ok (h : RY B μ q S) (hn : n < 5) (h1 : a1.toInt = (zti S : Int)) : gOk (mX4_lease nc (5 * q + n) a1 μ) (fun r => r.toInt = if nro (zno S n) = 2 then zLease S n else -1) := by
  have hb := h.1.2.1 n hn
  have htB := h.2.1.2.1
  have hB := h.2.2
  unfold mX4_lease
  refine gOk_eq hb.2.1 (y := 2) (b := 2) rfl (fun z => ?_) (fun z => gOk_some ?_)
  · have hr : nro (zno S n) = 2 := by omega
    rw [if_pos hr]
    have hec := (h.2.1.2.2.2.2.1 n hn).2.2.2.2.2.2 hr
    have up := fun T hT => zEcho_up (N := zno S n) (c := zc S (zno S n)) (ti := zti S) hn (fun u hu => (hec u hu).2) (zti S - T) T hT
    have hq : ∀ (c : Nat) (x : Int32), x.toInt = (c : Int) → gOk (mX4_heardSince nc (5 * q + n) x μ) (fun r16 => gOk (mX1_isQuorum nc (5 * q + n) r16 μ) (fun r18 => r18 = if sqQb (zc S (zno S n)) (zEcho (zno S n) n c) = true then 1 else 0)) := fun c x hx => by
      refine gOk_imp (mX4_heardSince_ok hb hn hr hx) (fun r16 h16 => ?_)
      exact mX1_isQuorum_ok hb.1.2.2.2.2.2.2 (h.G hn) h16
    have hlz : zLease S n = zLs (fun T => sqQb (zc S (zno S n)) (zEcho (zno S n) n T)) (zti S) := rfl
    refine gOk_jq (γ := Int32) (fun x2 => (x2.toInt = -1 ∧ zLease S n = -1) ∨ ∃ c : Nat, c ≤ zti S ∧ x2.toInt = (c : Int) ∧ zLease S n = (c : Int) + 6) (fun x2 hc => gOk_lee (fun x4 h4 => gOk_some ?_)) (fun j3 hj3 => ?_)
    · rcases hc with ⟨c1, c2⟩ | ⟨c, c1, c2, c3⟩
      · have : x2 = -1 := ti_eq c1 ti_m1
        rw [h4, if_pos this, c2]; exact ti_m1
      · have : x2 ≠ -1 := fun y => by rw [y, ti_m1] at c2; omega
        rw [h4, if_neg this, ti_add c2 (y := 6) (b := 6) rfl (by omega) (by omega), c3]
    · refine gOk_fx2 (fun v (x8 : Int32) (x9 : Int32) => ∃ j : Nat, v = 5 - j ∧ j ≤ 5 ∧ x9.toInt = (j : Int) ∧ ((x8.toInt = -1 ∧ ∀ (u c : Nat), u < j → (if u = n then (zti S : Int) else nec (zno S n) u) = (c : Int) → sqQb (zc S (zno S n)) (zEcho (zno S n) n c) = false) ∨ ∃ b : Nat, b ≤ zti S ∧ x8.toInt = (b : Int) ∧ sqQb (zc S (zno S n)) (zEcho (zno S n) n b) = true ∧ ∀ (u c : Nat), u < j → (if u = n then (zti S : Int) else nec (zno S n) u) = (c : Int) → b < c → sqQb (zc S (zno S n)) (zEcho (zno S n) n c) = false)) ?_ 1000000 5 _ _ (by omega) ⟨0, rfl, Nat.zero_le _, rfl, Or.inl ⟨ti_m1, fun u c hu => absurd hu (Nat.not_lt_zero u)⟩⟩
      intro rec v x8 x9 hI ih
      obtain ⟨j, hv, j1, j2, j3⟩ := hI
      subst hv
      refine gOk_le (x := 5) (a := 5) rfl j2 (fun y => ?_) (fun y => ?_)
      · have hj : j = 5 := by omega
        subst hj
        rcases j3 with ⟨c1, c2⟩ | ⟨b, b1, b2, b3, b4⟩
        · refine hj3 _ (Or.inl ⟨c1, ?_⟩)
          rw [hlz]
          refine zLs_no _ (fun T hT => ?_)
          cases w : sqQb (zc S (zno S n)) (zEcho (zno S n) n T) with
          | false => rfl
          | true =>
            exfalso
            obtain ⟨x, x1, x2, x3, x4⟩ := up T (by omega) w
            rcases x4 with x4 | ⟨u, u1, u2, u3⟩
            · have := c2 n x hn (by rw [if_pos rfl, x4])
              rw [x3] at this; cases this
            · have := c2 u x u1 (by rw [if_neg u2]; exact u3)
              rw [x3] at this; cases this
        · refine hj3 _ (Or.inr ⟨b, b1, b2, ?_⟩)
          rw [hlz]
          refine zLs_eq (P := fun T => sqQb (zc S (zno S n)) (zEcho (zno S n) n T)) b3 _ b1 (fun T hT1 hT => ?_)
          cases w : sqQb (zc S (zno S n)) (zEcho (zno S n) n T) with
          | false => rfl
          | true =>
            exfalso
            obtain ⟨x, x1, x2, x3, x4⟩ := up T (by omega) w
            rcases x4 with x4 | ⟨u, u1, u2, u3⟩
            · have := b4 n x hn (by rw [if_pos rfl, x4]) (by omega)
              rw [x3] at this; cases this
            · have := b4 u x u1 (by rw [if_neg u2]; exact u3) (by omega)
              rw [x3] at this; cases this
      · have hj5 : j < 5 := by omega
        have e9 : (x9 + 1).toInt = ((j + 1 : Nat) : Int) := by rw [ti_add j2 (y := 1) (b := 1) rfl (by omega) (by omega)]; omega
        have next : ∀ x, ((x.toInt = -1 ∧ ∀ (u c : Nat), u < j + 1 → (if u = n then (zti S : Int) else nec (zno S n) u) = (c : Int) → sqQb (zc S (zno S n)) (zEcho (zno S n) n c) = false) ∨ ∃ b : Nat, b ≤ zti S ∧ x.toInt = (b : Int) ∧ sqQb (zc S (zno S n)) (zEcho (zno S n) n b) = true ∧ ∀ (u c : Nat), u < j + 1 → (if u = n then (zti S : Int) else nec (zno S n) u) = (c : Int) → b < c → sqQb (zc S (zno S n)) (zEcho (zno S n) n c) = false) → gOk (rec x (x9 + 1)) (fun r => r.toInt = zLease S n) := fun x hx => ih _ _ (5 - (j + 1)) (by omega) ⟨j + 1, rfl, by omega, e9, hx⟩
        refine gOk_jq (γ := Int32) (fun x12 => x12.toInt = (if j = n then (zti S : Int) else nec (zno S n) j)) (fun x12 hc => ?_) (fun j13 hj13 => ?_)
        · have hcr : -1 ≤ (if j = n then (zti S : Int) else nec (zno S n) j) ∧ (if j = n then (zti S : Int) else nec (zno S n) j) ≤ (zti S : Int) := by
            split
            · omega
            · exact hec j hj5
          have hce : ∀ u, u < j + 1 → u < j ∨ u = j := fun u hu => by omega
          generalize hC : (if j = n then (zti S : Int) else nec (zno S n) j) = C at *
          rcases j3 with ⟨c1, c2⟩ | ⟨b, b1, b2, b3, b4⟩
          · refine gOk_le hc c1 (fun w => next _ (Or.inl ⟨c1, fun u c hu hx => ?_⟩)) (fun w => ?_)
            · rcases hce u hu with p | p
              · exact c2 u c p hx
              · subst p; rw [hC] at hx; omega
            · obtain ⟨c, rfl⟩ : ∃ c : Nat, C = (c : Int) := ⟨C.toNat, by omega⟩
              refine gOk_bp (hq c x12 hc) (fun r16 h16 => gOk_bp h16 (fun r18 h18 => ?_))
              by_cases p : sqQb (zc S (zno S n)) (zEcho (zno S n) n c) = true
              · rw [if_pos p] at h18
                refine gOk_if (fun y => absurd (h18.symm.trans y) (by decide)) (fun _ => next _ (Or.inr ⟨c, by omega, hc, p, fun u c' hu hx hlt => ?_⟩))
                rcases hce u hu with p2 | p2
                · exact c2 u c' p2 hx
                · subst p2; rw [hC] at hx; omega
              · rw [if_neg p] at h18
                refine gOk_if (fun _ => next _ (Or.inl ⟨c1, fun u c' hu hx => ?_⟩)) (fun y => absurd h18 y)
                rcases hce u hu with p2 | p2
                · exact c2 u c' p2 hx
                · subst p2
                  rw [hC] at hx
                  have : c' = c := by omega
                  rw [this]
                  exact Bool.eq_false_iff.mpr p
          · refine gOk_le hc b2 (fun w => next _ (Or.inr ⟨b, b1, b2, b3, fun u c hu hx hlt => ?_⟩)) (fun w => ?_)
            · rcases hce u hu with p | p
              · exact b4 u c p hx hlt
              · subst p; rw [hC] at hx; omega
            · obtain ⟨c, rfl⟩ : ∃ c : Nat, C = (c : Int) := ⟨C.toNat, by omega⟩
              refine gOk_bp (hq c x12 hc) (fun r16 h16 => gOk_bp h16 (fun r18 h18 => ?_))
              by_cases p : sqQb (zc S (zno S n)) (zEcho (zno S n) n c) = true
              · rw [if_pos p] at h18
                refine gOk_if (fun y => absurd (h18.symm.trans y) (by decide)) (fun _ => next _ (Or.inr ⟨c, by omega, hc, p, fun u c' hu hx hlt => ?_⟩))
                rcases hce u hu with p2 | p2
                · exact b4 u c' p2 hx (by omega)
                · subst p2; rw [hC] at hx; omega
              · rw [if_neg p] at h18
                refine gOk_if (fun _ => next _ (Or.inr ⟨b, b1, b2, b3, fun u c' hu hx hlt => ?_⟩)) (fun y => absurd h18 y)
                rcases hce u hu with p2 | p2
                · exact b4 u c' p2 hx hlt
                · subst p2
                  rw [hC] at hx
                  have : c' = c := by omega
                  rw [this]
                  exact Bool.eq_false_iff.mpr p
        · refine gOk_eq j2 hb.1.1 (fun w => hj13 _ ?_) (fun w => ?_)
          · rw [if_pos (by omega)]; exact h1
          · have p5 := ti_inb (n := 5) j2 hj5
            simp only [ti_cl j2]
            refine gOk_chk p5 (hj13 _ ?_)
            rw [if_neg (by omega)]
            exact (hb.2.2.2.2 hr j hj5).2.2
  · rw [if_neg (by omega)]; exact ti_m1
theorem mX4_canAnswerReads_ok (h : RY B μ q S) (hn : n < 5) (hr : nro (zno S n) = 2) (h1 : a1.toInt = (zti S : Int)) : gOk (mX4_canAnswerReads nc (5 * q + n) a1 μ) (fun r => r = if (zti S : Int) < zLease S n ∧ sqTT (nlg (zno S n)) (ncm (zno S n)) = ntm (zno S n) then 1 else 0) := by
  have hb := h.1.2.1 n hn
  have hlen := h.len hn
  have hbd : nbs (zno S n) ≤ ncm (zno S n) ∧ ncm (zno S n) ≤ (nlg (zno S n)).length := by
    obtain ⟨⟨hh, I0⟩, L⟩ := h.2.1
    exact ⟨(zCmx_bd I0 hn).2.2.2, (zCmx_bd I0 hn).1⟩
  unfold mX4_canAnswerReads
  refine gOk_bp (mX4_lease_ok h hn h1) (fun r2 h2 => ?_)
  rw [if_pos hr] at h2
  refine gOk_le h2 h1 (fun w => gOk_some ?_) (fun w => ?_)
  · rw [if_neg (fun z => by omega)]
  · refine gOk_bp (mX1_termAt_ok hb.1.2.2.2.2.2.1 (by omega) hb.1.2.2.2.2.1 hbd.1 hbd.2) (fun r5 h5 => gOk_eq h5 hb.1.2.2.1 (fun z => gOk_some ?_) (fun z => gOk_some ?_))
    · rw [if_pos ⟨w, by omega⟩]
    · rw [if_neg (fun y => z (by omega))]
theorem cut_one : ∀ k j : Fin 25, ((1 : Int32) <<< (Int32.ofNat k.val &&& 31)).toBitVec.getLsbD j.val = decide (j.val = k.val) := by decide +kernel
theorem cut_m1 (j : Nat) (hj : j < 25) : (-1 : Int32).toBitVec.getLsbD j = true := by
  have : ∀ j : Fin 25, (-1 : Int32).toBitVec.getLsbD j.val = true := by decide +kernel
  exact this ⟨j, hj⟩
theorem mX3_setCut_ok (h : RB μ q S) {c d : Nat} (hc : c < 5) (hd : d < 5) (h1 : a1.toInt = (c : Int)) (h2 : a2.toInt = (d : Int)) : gOk (mX3_setCut nc q a1 a2 a3 μ) (fun μ' => gFr (npP q) μ μ' ∧ RB μ' q (zCu S c d (decide (a3 ≠ 0)))) := by
  have e1 : (a1 * 5) + a2 = Int32.ofNat (c * 5 + d) := ti_of (by rw [ti_add (ti_mul h1 (y := 5) (b := 5) rfl (by omega) (by omega)) h2 (by omega) (by omega)]; omega)
  have e2 : (a2 * 5) + a1 = Int32.ofNat (d * 5 + c) := ti_of (by rw [ti_add (ti_mul h2 (y := 5) (b := 5) rfl (by omega) (by omega)) h1 (by omega) (by omega)]; omega)
  unfold mX3_setCut
  rw [e1, e2]
  have bit : ∀ i j, i < 5 → j < 5 → ((1 <<< (Int32.ofNat (c * 5 + d) &&& 31)) ||| (1 <<< (Int32.ofNat (d * 5 + c) &&& 31)) : Int32).toBitVec.getLsbD (i * 5 + j) = decide ((i = c ∧ j = d) ∨ (i = d ∧ j = c)) := fun i j hi hj => by
    rw [Int32.toBitVec_or, BitVec.getLsbD_or, cut_one ⟨c * 5 + d, by omega⟩ ⟨i * 5 + j, by omega⟩, cut_one ⟨d * 5 + c, by omega⟩ ⟨i * 5 + j, by omega⟩]
    rw [← Bool.decide_or]
    refine decide_eq_decide.mpr ⟨fun z => ?_, fun z => ?_⟩
    · have z : i * 5 + j = c * 5 + d ∨ i * 5 + j = d * 5 + c := z
      omega
    · show i * 5 + j = c * 5 + d ∨ i * 5 + j = d * 5 + c
      rcases z with ⟨rfl, rfl⟩ | ⟨rfl, rfl⟩
      · exact Or.inl rfl
      · exact Or.inr rfl
  refine gOk_lee (fun x1 hx => ?_)
  rw [← hx] at bit
  have key : ∀ x5 : Int32, (∀ i j, i < 5 → j < 5 → x5.toBitVec.getLsbD (i * 5 + j) = if (i = c ∧ j = d) ∨ (i = d ∧ j = c) then decide (a3 ≠ 0) else zcu S i j) → gOk (gLet (α := gM) (w3 μ 9 q 4 x5) fun μ7 => some μ7) (fun μ' => gFr (npP q) μ μ' ∧ RB μ' q (zCu S c d (decide (a3 ≠ 0)))) := fun x5 hx5 => by
    have F : gFr (npP q) μ (w3 μ 9 q 4 x5) := gFr.w ⟨rfl, by omega⟩
    refine gOk_let (gOk_some ⟨F, h.net ?_ (fun f i j z => by rw [w3_o _ _ (by omega)])⟩)
    obtain ⟨k1, k2, k3, k4, k5, k6, k7, k8⟩ := h.1
    have hp : ∀ i, nwP (w3 μ 9 q 4 x5) q i = nwP μ q i := fun i => nwP_cg (fun _ => w3_o _ _ (by omega)) (fun _ => w3_o _ _ (by omega)) (fun _ => w3_o _ _ (by omega))
    refine ⟨k1.perm (fun i => i) (fun i _ => hp i) (fun i hi => hi) (fun i j _ _ e => e), by rw [w3_o _ _ (by omega)]; exact k2, k3, fun i j hi hj => ?_, by rw [w3_o _ _ (by omega)]; exact k5, by rw [w3_o _ _ (by omega)]; exact k6, by rw [w3_o _ _ (by omega)]; exact k7, fun i m hm => by rw [hp i]; exact (k8 i m hm).np F⟩
    rw [w3_at, hx5 i j hi hj]
    show _ = sqU2 (sqU2 (zcu S) c d (decide (a3 ≠ 0))) d c (decide (a3 ≠ 0)) i j
    unfold sqU2
    by_cases z : i = d ∧ j = c
    · rw [if_pos (Or.inr z), if_pos z]
    · by_cases w : i = c ∧ j = d
      · rw [if_pos (Or.inl w), if_neg z, if_pos w]
      · rw [if_neg (fun y => y.elim w z), if_neg z, if_neg w]
  have k4 := h.1.2.2.2.1
  refine gOk_jq (γ := Int32) (fun x5 => ∀ i j, i < 5 → j < 5 → x5.toBitVec.getLsbD (i * 5 + j) = if (i = c ∧ j = d) ∨ (i = d ∧ j = c) then decide (a3 ≠ 0) else zcu S i j) key (fun j6 hj6 => ?_)
  refine gOk_if (fun z => hj6 _ (fun i j hi hj => ?_)) (fun z => hj6 _ (fun i j hi hj => ?_))
  · rw [Int32.toBitVec_and, Int32.toBitVec_xor, BitVec.getLsbD_and, BitVec.getLsbD_xor, k4 i j hi hj, bit i j hi hj, cut_m1 _ (by omega)]
    by_cases w : (i = c ∧ j = d) ∨ (i = d ∧ j = c)
    · rw [decide_eq_true w, if_pos w, Bool.xor_self, Bool.and_false, decide_eq_false (fun y => y z)]
    · rw [decide_eq_false w, if_neg w, Bool.false_xor, Bool.and_true]
  · rw [Int32.toBitVec_or, BitVec.getLsbD_or, k4 i j hi hj, bit i j hi hj]
    by_cases w : (i = c ∧ j = d) ∨ (i = d ∧ j = c)
    · rw [decide_eq_true w, if_pos w, Bool.or_true, decide_eq_true z]
    · rw [decide_eq_false w, if_neg w, Bool.or_false]
end SqClo
