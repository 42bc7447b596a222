/-! The class: winning, standing, counting down. -/
section SqClz
variable {μ μ' μ1 : gM} {n g b k i nc B t t1 s q kk : Nat} {l : List sqE} {a1 a2 a3 a4 : Int32} {e : sqE} {m : sqMs} {S S' : sqSt} {N : sqN} {h : sqH}
/-- a winner whose log is full has nothing to commit -/
theorem zCom_full (I : zIL B S) (hn : n < 5) (hr : nro (zno S n) = 1) (hf : ¬ (nlg (zno S n)).length < nbs (zno S n) + 24) : zCom (zLead S n) n = zLead S n := by
  obtain ⟨⟨h, I0⟩, L⟩ := I
  have a := I0.2.2.1 n hn
  have hmem : zmem S (zno S n) n = true := (L.2.2.2.1 n hn).2.2.2.2.2.1 hr
  have hlg := (a.2.2.2.2.2 hr).1
  have hlow := (I0.2.1.2.2.2.2.1 (ntm (zno S n)) n).2.1
  rw [← hlg] at hlow
  have e1 := zLead_at S n
  have e2 := zLead_mem S n
  have hid : zN (zLead S n) n (nCm (zno (zLead S n) n) (ncm (zno (zLead S n) n))) = zLead S n := by rw [nCm_id, zN_id]
  have hc : zCmx (zLead S n) n (zno (zLead S n) n) = ncm (zno (zLead S n) n) := by
    rcases sqFind_or (fun i => sqTT (nlg (zno (zLead S n) n)) i == ntm (zno (zLead S n) n) && sqQb (zc (zLead S n) (zno (zLead S n) n)) (zHold (zno (zLead S n) n) n i)) (ncm (zno (zLead S n) n)) (nlg (zno (zLead S n) n)).length with z | ⟨z1, z2, z3⟩
    · exact z
    · exfalso
      have z4 : (sqTT (nlg (zno (zLead S n) n)) (zCmx (zLead S n) n (zno (zLead S n) n)) == ntm (zno (zLead S n) n)) = true := (Bool.and_eq_true _ _ ▸ z3).1
      have z1 : ncm (zno (zLead S n) n) < zCmx (zLead S n) n (zno (zLead S n) n) := z1
      have z2 : zCmx (zLead S n) n (zno (zLead S n) n) ≤ (nlg (zno (zLead S n) n)).length := z2
      generalize zCmx (zLead S n) n (zno (zLead S n) n) = i at *
      rw [e1] at z1 z2 z4
      have z2 : i ≤ (nlg (zno S n)).length := z2
      have z4 : (sqTT (nlg (zno S n)) i == ntm (zno S n)) = true := z4
      have hj : (nlg (zno S n))[i - 1]? = some ((nlg (zno S n))[i - 1]'(by omega)) := List.getElem?_eq_getElem (by omega)
      have z5 := hlow _ _ hj
      have z6 := sqTT_some hj
      rw [show i - 1 + 1 = i by omega] at z6
      have z7 := beq_iff_eq.mp z4
      omega
  unfold zCom
  rw [hc]
  by_cases q1 : sqCI (nlg (zno (zLead S n) n)) ≤ ncm (zno (zLead S n) n)
  · rw [if_pos q1]
    by_cases q2 : (zc (zLead S n) (zno (zLead S n) n)).1 ≠ 0
    · rw [if_pos q2, if_neg (by rw [e1]; exact hf)]; exact hid
    · rw [if_neg q2, if_pos]
      · exact hid
      · rw [hmem] at e2
        unfold zmem at e2
        have q2 : (zc (zLead S n) (zno (zLead S n) n)).1 = 0 := Classical.byContradiction q2
        rw [q2, Nat.zero_testBit, Bool.false_or] at e2
        exact e2
  · rw [if_neg q1]; exact hid
theorem mX0_finish_win (h : RY B μ q S) (hB : B + 2 < 900000000) (hq : q < nc) (hnc : nc ≤ 2) (hn : n < 5) (hr : nro (zno S n) = 1) (hQ : sqQb (zc S (zno S n)) (nvs (zno S n)) = true) : gOk (mX0_finish nc q (5 * q + n) 1 μ) (fun μ' => gFr (rbP q) μ μ' ∧ RB μ' q (zWin S n)) := by
  have hZ := h.2.1.lead hn hr hQ
  have hmem : zmem S (zno S n) n = true := (h.2.1.2.2.2.2.1 n hn).2.2.2.2.2.1 hr
  obtain ⟨l1, l2, l3, l4⟩ := zLead_lg S n
  have htm := (h.2.1.2.2.2.2.1 n hn).1
  have hful := zCom_full h.2.1 hn hr
  unfold mX0_finish
  refine gOk_jon (gOk_if (fun _ => ?_) (fun z => absurd rfl z))
  refine gOk_bp (mX0_becomeLeader_ok h hn) (fun μ19 h19 => gOk_jon (gOk_jon (gOk_if (fun _ => ?_) (fun z => absurd rfl z))))
  obtain ⟨F19, R19⟩ := h19
  have fin : ∀ (S1 : sqSt) (B1 : Nat), zWin S n = zAll (zCom S1 n) n → RB μ19 q S1 → zIL B1 S1 → zIL (B + 2) (zCom S1 n) → B1 < 900000000 → nro (zno S1 n) = 2 → nro (zno (zCom S1 n) n) = 2 → gOk (gBp (mX0_commit nc q (5 * q + n) μ19) fun μ13 =>
          gJon (fun (u8 : Unit) =>
              gBp (mX0_sendToMembers nc q (5 * q + n) μ13) fun μ7 =>
              some μ7) fun j5 =>
          if (1 : Int32) = 1 then
            j5 () 
          else
            if (1 : Int32) = 3 then
              j5 () 
            else
              some μ13) (fun μ' => gFr (rbP q) μ μ' ∧ RB μ' q (zWin S n)) := by
    intro S1 B1 e1 r1 z1 z2 b1 n1 n2
    rw [e1]
    refine gOk_bp (mX0_commit_ok ⟨r1, z1, b1⟩ hn n1) (fun μ13 h13 => gOk_jon (gOk_if (fun _ => ?_) (fun z => absurd rfl z)))
    refine gOk_bp (mX0_sendToMembers_ok ⟨h13.2, z2, hB⟩ hq hnc hn n2) (fun μ7 h7 => gOk_some ⟨F19.tr ((h13.1.up (bnP_rb hn)).tr h7.1), h7.2.1⟩)
  by_cases w : (nlg (zno S n)).length < nbs (zno S n) + 24
  · rw [if_pos w] at R19
    have hz3 : zIL (B + 1) (zAdd (zLead S n) n 3 0) := hZ.add hn l3 (by rw [l1, l2]; omega) (fun c hc => by cases hc) ⟨by rw [l4]; show ntm (zno S n) ≤ B + 1; omega, by show 3 ≤ 3; decide, fun r => absurd r (by show ¬ 3 = 1; decide), fun r => absurd r (by show ¬ 3 = 2; decide)⟩
    have n1 : nro (zno (zAdd (zLead S n) n 3 0) n) = 2 := by rw [zAdd_at]; exact l3
    refine fin _ (B + 1) ?_ R19 hz3 (hz3.com hn n1) (by omega) n1 (zCom_role (by rw [zAdd_blank, zLead_mem]; exact hmem) n1)
    unfold zWin
    rw [if_pos w]
  · rw [if_neg w] at R19
    have hf := hful w
    refine fin _ B ?_ R19 hZ (by rw [hf]; exact ⟨hZ.1, hZ.2.up (by omega)⟩) (by omega) l3 (by rw [hf]; exact l3)
    rw [hf]
    unfold zWin
    rw [if_neg w]
theorem mX0_finish_ok {r : Int32} (hB : B + 2 < 900000000) (hq : q < nc) (hnc : nc ≤ 2) (hn : n < 5) (hp : fnP B q n S' (r, μ)) : gOk (mX0_finish nc q (5 * q + n) r μ) (fun μ' => gFr (rbP q) μ μ' ∧ RB μ' q S') := by
  rcases hp with ⟨p1, p2⟩ | ⟨p1, S1, p2, p3, p4, p5⟩ | ⟨p1, S1, p2, p3, p4⟩ | ⟨p1, S1, p2, p3, p4⟩
  · have p1 : r = 0 := p1
    rw [p1]
    exact mX0_finish_none p2
  · have p1 : r = 1 := p1
    rw [p1, ← p5]
    exact mX0_finish_win p2 hB hq hnc hn p3 p4
  · have p1 : r = 2 := p1
    rw [p1, ← p4]
    exact mX0_finish_commit p2 hn p3
  · have p1 : r = 3 := p1
    rw [p1, ← p4]
    exact gOk_imp (mX0_finish_send p2 hq hnc hn p3) (fun μ' h' => ⟨h'.1, h'.2.1⟩)
theorem BN.ti (h : BN μ k n g N) (x : Int32) : BN (w3 μ 11 k 10 x) k n g (nTi N x) := by
  obtain ⟨h0, h6, h10, h11, h13⟩ := h
  refine ⟨h0.cg (fun f j z => w3_o _ _ (by omega)), by rw [w3_o _ _ (by omega)]; exact h6, by rw [w3_at]; rfl, fun r => by rw [w3_o _ _ (by omega)]; exact h11 r, fun r u hu => ?_⟩
  rw [w3_o _ _ (by omega), w3_o _ _ (by omega), w3_o _ _ (by omega)]
  exact h13 r u hu
theorem zTim_zS (S : sqSt) (k : Nat) (x : Int32) (n T : Nat) : zTim (zS S k x) n T = zTim S n T := by
  unfold zTim
  have : zse (zS S k x) = zse S := rfl
  rw [this]
/-- a node stands: its cells -/
theorem BN.std (h : BN μ k n g N) (hn : n < 5) {x : Int32} (hx : x.toInt = ((ntm N + 1 : Nat) : Int)) {y : Int32} (hy : y.toInt = (n : Int)) {z : Int32} (hz : z.toInt = (sqMk (fun u => u == n) : Int)) : BN (w3 (w3 (w3 (w3 μ 11 k 7 x) 11 k 6 1) 11 k 8 y) 11 k 11 z) k n g (nStand N n (nti N)) := by
  obtain ⟨⟨h0, h5, h7, h8, h9, hl, hf⟩, h6, h10, h11, h13⟩ := h
  have o : ∀ f j, ¬ (f = 11 ∧ (j = 6 ∨ j = 7 ∨ j = 8 ∨ j = 11)) → w3 (w3 (w3 (w3 μ 11 k 7 x) 11 k 6 1) 11 k 8 y) 11 k 11 z f k j = μ f k j := fun f j q => by rw [w3_o _ _ (by omega), w3_o _ _ (by omega), w3_o _ _ (by omega), w3_o _ _ (by omega)]
  refine ⟨⟨by rw [o 11 0 (by omega)]; exact h0, by rw [o 11 5 (by omega)]; exact h5, by rw [w3_o _ _ (by omega), w3_o _ _ (by omega), w3_o _ _ (by omega), w3_at]; exact hx, by rw [w3_o _ _ (by omega), w3_at]; exact hy, by rw [o 11 9 (by omega)]; exact h9, hl.cg (fun j _ _ => o 12 j (by omega)) (fun f j _ _ _ => o f j (by omega)), ?_⟩, by rw [w3_o _ _ (by omega), w3_o _ _ (by omega), w3_at]; rfl, by rw [o 11 10 (by omega)]; exact h10, fun _ => by rw [w3_at]; exact hz, fun r => by cases r⟩
  unfold CF
  rw [o 12 9 (by omega), o 12 10 (by omega), o 12 11 (by omega)]
  exact hf
/-- requests to all others -/
theorem mX0_ask_loop (h : RY B μ q S) (hq : q < nc) (hnc : nc ≤ 2) (hn : n < 5) (hr : nro (zno S n) = 1) {β : Type} {Q : β → Prop} {j14 : gM → Option β} (hj : ∀ μ', gFr (rbP q) μ μ' → RY B μ' q (zAsk S n) → gOk (j14 μ') Q) : gOk (gFx2 (fun rec20 (x18 : Int32) (μ19 : gM) =>
      if 5 ≤ x18 then
        j14 μ19
      else
        if x18 = (μ19 11 (5 * q + n) 0) then
          rec20 (x18 + 1) μ19
        else
          gBp (mX1_isMember nc (5 * q + n) x18 μ19) fun r24 =>
          if r24 = 0 then
            rec20 (x18 + 1) μ19
          else
            gBd (mX0_open nc q 0 (5 * q + n) x18 μ19) fun r27 μ28 =>
            gChk (r27 < 42 * nc) <|
            gBp (mX1_lastIndex nc (5 * q + n) μ28) fun r31 =>
            gLet (α := gM) (w3 μ28 19 r27 10 r31) fun μ32 =>
            gBp (mX1_lastTerm nc (5 * q + n) μ32) fun r35 =>
            gLet (α := gM) (w3 μ32 19 r27 11 r35) fun μ36 =>
            gBp (mX3_post nc q μ36) fun μ39 =>
            rec20 (x18 + 1) μ39) 1000000 0 μ) Q := by
  refine gOk_fx2 (fun m (x5 : Int32) (μ6 : gM) => ∃ j : Nat, m = 5 - j ∧ j ≤ 5 ∧ x5.toInt = (j : Int) ∧ gFr (rbP q) μ μ6 ∧ RY B μ6 q ((List.range j).foldl (fun S i => if i ≠ n ∧ zmem S (zno S n) i = true then zPost S (0, n, i, ntm (zno S n), zti S + zde S, (nlg (zno S n)).length, sqTT (nlg (zno S n)) (nlg (zno S n)).length, zti S, 0, 0, []) else S) S) ∧ zno ((List.range j).foldl (fun S i => if i ≠ n ∧ zmem S (zno S n) i = true then zPost S (0, n, i, ntm (zno S n), zti S + zde S, (nlg (zno S n)).length, sqTT (nlg (zno S n)) (nlg (zno S n)).length, zti S, 0, 0, []) else S) S) = zno S) ?_ 1000000 5 _ _ (by omega) ⟨0, rfl, by omega, rfl, gFr.rf, h, rfl⟩
  intro rec m x5 μ6 hI ih
  obtain ⟨j, hm, j1, j2, j3, j4, j5⟩ := hI
  subst hm
  refine gOk_le (x := 5) (a := 5) rfl j2 (fun z => ?_) (fun z => ?_)
  · have hj5 : j = 5 := by omega
    subst hj5
    exact hj _ j3 j4
  · have hj5 : j < 5 := by omega
    have h8 := ti_add j2 (y := 1) (b := 1) rfl (by omega) (by omega)
    have hs : ∀ (f : sqSt → Nat → sqSt), (List.range (j + 1)).foldl f S = f ((List.range j).foldl f S) j := fun f => by
      rw [List.range_succ, List.foldl_append]; rfl
    have hs := hs (fun S i => if i ≠ n ∧ zmem S (zno S n) i = true then zPost S (0, n, i, ntm (zno S n), zti S + zde S, (nlg (zno S n)).length, sqTT (nlg (zno S n)) (nlg (zno S n)).length, zti S, 0, 0, []) else S)
    have next : ∀ (μ7 : gM) (S7 : sqSt), (List.range (j + 1)).foldl (fun S i => if i ≠ n ∧ zmem S (zno S n) i = true then zPost S (0, n, i, ntm (zno S n), zti S + zde S, (nlg (zno S n)).length, sqTT (nlg (zno S n)) (nlg (zno S n)).length, zti S, 0, 0, []) else S) S = S7 → gFr (rbP q) μ μ7 → RY B μ7 q S7 → zno S7 = zno S → gOk (rec (x5 + 1) μ7) Q := fun μ7 S7 f0 f1 f2 f3 => ih _ _ (5 - (j + 1)) (by omega) ⟨j + 1, rfl, by omega, by rw [h8]; omega, f1, by rw [f0]; exact f2, by rw [f0]; exact f3⟩
    generalize (List.range j).foldl (fun S i => if i ≠ n ∧ zmem S (zno S n) i = true then zPost S (0, n, i, ntm (zno S n), zti S + zde S, (nlg (zno S n)).length, sqTT (nlg (zno S n)) (nlg (zno S n)).length, zti S, 0, 0, []) else S) S = Sj at *
    have hb := j4.1.2.1 n hn
    have hlen := j4.len hn
    refine gOk_eq j2 hb.1.1 (fun q2 => ?_) (fun q2 => ?_)
    · have hs2 := hs.trans (if_neg (fun w => w.1 (by omega)))
      exact next _ Sj hs2 j3 j4 j5
    · refine gOk_bp (mX1_isMember_ok hb.1.2.2.2.2.2.2 (j4.G hn) hj5 j2) (fun r9 h9 => ?_)
      by_cases w : zmem Sj (zno Sj n) j = true
      · rw [if_pos (show ((sqF (zg Sj) (nlg (zno Sj n))).1.testBit j || (sqF (zg Sj) (nlg (zno Sj n))).2.testBit j) = true from w)] at h9
        refine gOk_if (fun z => absurd (h9.symm.trans z) (by decide)) (fun _ => ?_)
        have hs2 := hs.trans (if_pos ⟨by omega, w⟩)
        have hrow := j4.1.rows
        refine gOk_bd (mX0_open_ok j4.1 hq hn j4.tm (kd := 0) rfl j2) (fun r12 μ13 hp => ?_)
        obtain ⟨p1, p2, p3⟩ := hp
        have p1 : r12 = nwP μ6 q 40 := p1
        have p2 : gFr (mgP (nwP μ6 q 40)) μ6 μ13 := p2
        have p3 : opC μ13 (nwP μ6 q 40) 0 n j (ntm (zno Sj n)) (zti Sj + zde Sj) (zti Sj) := p3
        rw [p1]
        have n40 := j4.1.1.num hq (i := 40) (by omega)
        have hpl : ∀ {μ' : gM}, gFr (mgP (nwP μ6 q 40)) μ6 μ' → nwP μ' q 40 = nwP μ6 q 40 := fun f => j4.1.place f
        have hdr : ∀ {μ' : gM}, gFr (mgP (nwP μ6 q 40)) μ6 μ' → RB μ' q Sj := fun f => j4.1.draft f
        generalize nwP μ6 q 40 = t at *
        have C13 := ((hdr p2).2.1 n hn).1.2.2.2.2.2.1
        refine gOk_chk n40 (gOk_bp (mX1_lastIndex_ok C13 (by omega)) (fun r31 h31 => gOk_lee (fun μ32 h32 => ?_)))
        have F32 : gFr (mgP t) μ6 μ32 := p2.tr (by rw [h32]; exact gFr.w ⟨rfl, by omega⟩)
        have C32 := ((hdr F32).2.1 n hn).1.2.2.2.2.2.1
        refine gOk_bp (mX1_lastTerm_ok C32) (fun r35 h35 => gOk_lee (fun μ36 h36 => ?_))
        have F36 : gFr (mgP t) μ6 μ36 := F32.tr (by rw [h36]; exact gFr.w ⟨rfl, by omega⟩)
        obtain ⟨o3, o4, o5, o6, o7, o8, o9, o10, o11, o12, o13⟩ := p3
        have up : ∀ f, f ≠ 10 → f ≠ 11 → μ36 19 t f = μ13 19 t f := fun f f1 f2 => by rw [h36, w3_o _ _ (by omega), h32, w3_o _ _ (by omega)]
        have bm : BM μ36 t (zg Sj) (0, n, j, ntm (zno Sj n), zti Sj + zde Sj, (nlg (zno Sj n)).length, sqTT (nlg (zno Sj n)) (nlg (zno Sj n)).length, zti Sj, 0, 0, []) := by
          refine ⟨?_, ?_, ?_, ?_, ?_, ?_, ?_, ?_, fun _ => ?_, fun z => (by rcases z with z | z <;> cases z), fun z => (by cases z), fun z => (by cases z)⟩
          · rw [up 4 (by omega) (by omega)]; exact o4
          · rw [up 5 (by omega) (by omega)]; exact o5
          · rw [up 6 (by omega) (by omega)]; exact o6
          · rw [up 7 (by omega) (by omega)]; exact o7
          · rw [up 8 (by omega) (by omega)]; exact o8
          · rw [up 9 (by omega) (by omega)]; exact o9
          · rw [h36, w3_o _ _ (by omega), h32, w3_at]; exact h31
          · rw [up 12 (by omega) (by omega)]; exact Or.inl o12
          · rw [h36, w3_at]; exact h35
        have hrj : nro (zno Sj n) = 1 := by rw [j5]; exact hr
        refine gOk_bp ((hdr F36).post hq hnc (by rw [hpl F36]; exact bm) hn hj5) (fun μ39 h39 => ?_)
        exact next _ _ hs2 (j3.tr ((F36.up (mgP_rb hrow.2 hrow.1)).tr (h39.1.up npP_rb))) ⟨h39.2, j4.2.1.ask1 hn hj5 (by omega) hrj, j4.2.2⟩ ((zPost_no _ _).trans j5)
      · rw [if_neg (show ¬ ((sqF (zg Sj) (nlg (zno Sj n))).1.testBit j || (sqF (zg Sj) (nlg (zno Sj n))).2.testBit j) = true from w)] at h9
        refine gOk_if (fun _ => ?_) (fun z => absurd h9 z)
        have hs2 := hs.trans (if_neg (fun v => w v.2))
        exact next _ Sj hs2 j3 j4 j5
theorem mX0_stand_x (h : RY B μ q S) (hB : B + 3 < 900000000) (hq : q < nc) (hnc : nc ≤ 2) (hn : n < 5) (hu : nup (zno S n) = true) (hm : zmem S (zno S n) n = true) (X : Int32) (hres : ∀ μ9, RB μ9 q (zN (zS S 3 1) n (nStand (zno S n) n (nti (zno S n)))) → gOk (mX0_resetTimer nc q (5 * q + n) μ9) (fun μ12 => gFr (bnP (5 * q + n)) μ9 μ12 ∧ RB μ12 q (zN (zS S 3 1) n (nStand (zno S n) n X)))) : gOk (mX0_stand nc q (5 * q + n) μ) (fun p => gFr (rbP q) μ p.2 ∧ fnP (B + 1) q n (if sqQb (zc S (zno S n)) (fun u => u == n) = true then zWin (zAsk (zN (zS S 3 1) n (nStand (zno S n) n X)) n) n else zAsk (zN (zS S 3 1) n (nStand (zno S n) n X)) n) p) := by
  have L := h.2.1.2
  have htm := (L.2.2.2.1 n hn).1
  have hlen := h.len hn
  unfold mX0_stand
  refine gOk_lee (fun μ1 h1 => gOk_lee (fun μ3 h3 => gOk_lee (fun μ5 h5 => gOk_lee (fun μ7 h7 => gOk_lee (fun μ9 h9 => ?_)))))
  have R1 : RB μ1 q (zS S 3 1) := by rw [h1]; exact h.1.st (c := 3) (by omega) (by omega) 1
  have b1 : BN μ1 (5 * q + n) n (zg S) (zno S n) := R1.2.1 n hn
  have F1 : gFr (rbP q) μ μ1 := by rw [h1]; exact gFr.w (rcP_rb _ _ 0 ⟨rfl, Or.inl rfl⟩)
  have c0 : ∀ {μ' : gM}, gFr (bnP (5 * q + n)) μ1 μ' → μ' 11 (5 * q + n) 0 = Int32.ofNat n := fun f => (f 11 _ 0 (fun z => by have := z.2; omega)).trans (ti_of b1.1.1)
  have F5 : gFr (bnP (5 * q + n)) μ1 μ5 := by
    rw [h5, h3]
    exact (gFr.w ⟨rfl, by omega⟩).tr (gFr.w ⟨rfl, by omega⟩)
  rw [c0 F5] at h7
  have F7 : gFr (bnP (5 * q + n)) μ1 μ7 := F5.tr (by rw [h7]; exact gFr.w ⟨rfl, by omega⟩)
  rw [c0 F7] at h9
  have F9 : gFr (bnP (5 * q + n)) μ1 μ9 := F7.tr (by rw [h9]; exact gFr.w ⟨rfl, by omega⟩)
  have e7 : ((μ1 11 (5 * q + n) 7) + 1).toInt = ((ntm (zno S n) + 1 : Nat) : Int) := by rw [ti_add b1.1.2.2.1 (y := 1) (b := 1) rfl (by omega) (by omega)]; omega
  have b9 : BN μ9 (5 * q + n) n (zg S) (nStand (zno S n) n (nti (zno S n))) := by
    rw [h9, h7, h5, h3]
    exact b1.std hn e7 (ti_nat (by omega)) (by rw [i32_onek n hn, sqMk_i32])
  have R9 := R1.node hn F9 b9
  refine gOk_bp (hres μ9 R9) (fun μ12 h12 => ?_)
  obtain ⟨F12, R12⟩ := h12
  have Z12 := h.2.1.stand1 hn hu hm X rfl
  have e1 : zno (zN (zS S 3 1) n (nStand (zno S n) n X)) n = nStand (zno S n) n X := zN_at _ _ _
  have e0 : zg (zN (zS S 3 1) n (nStand (zno S n) n X)) = zg S := rfl
  generalize zN (zS S 3 1) n (nStand (zno S n) n X) = S1 at *
  have hr1 : nro (zno S1 n) = 1 := by rw [e1]; rfl
  have FF := F1.tr ((F9.tr F12).up (bnP_rb hn))
  refine gOk_jq (γ := gM) (fun μ13 => gFr (rbP q) μ μ13 ∧ RY (B + 1) μ13 q (zAsk S1 n)) (fun μ13 hc => ?_) (fun j14 hj14 => mX0_ask_loop ⟨R12, Z12, by omega⟩ hq hnc hn hr1 (fun μ' f r => hj14 μ' ⟨FF.tr f, r⟩))
  obtain ⟨F13, R13⟩ := hc
  obtain ⟨-, a2', a3'⟩ := Z12.2.ask hn
  obtain ⟨h0, I0⟩ := Z12.1
  obtain ⟨hc, hv, -, -⟩ := (I0.2.2.1 n hn).2.2.2.2.2 hr1
  obtain ⟨-, -, a4'⟩ := I0.ask hn hc hv
  have hzc : zc (zAsk S1 n) (zno (zAsk S1 n) n) = zc S (zno S n) := by
    unfold zc
    rw [a4', a3', e1, e0]
    rfl
  have b13 := R13.1.2.1 n hn
  have hr2 : nro (zno (zAsk S1 n) n) = 1 := by rw [a3']; exact hr1
  have hv2 : nvs (zno (zAsk S1 n) n) = fun u => u == n := by rw [a3', e1]; rfl
  refine gOk_bp (mX1_isQuorum_ok b13.1.2.2.2.2.2.2 (R13.G hn) (b13.2.2.2.1 hr2)) (fun r16 h16 => ?_)
  have h16 : r16 = if sqQb (zc (zAsk S1 n) (zno (zAsk S1 n) n)) (nvs (zno (zAsk S1 n) n)) = true then 1 else 0 := h16
  by_cases w : sqQb (zc S (zno S n)) (fun u => u == n) = true
  · rw [hzc, hv2, if_pos w] at h16
    rw [if_pos w]
    exact gOk_if (fun z => absurd (h16.symm.trans z) (by decide)) (fun _ => gOk_some ⟨F13, Or.inr (Or.inl ⟨rfl, zAsk S1 n, R13, hr2, by rw [hzc, hv2]; exact w, rfl⟩)⟩)
  · rw [hzc, hv2, if_neg w] at h16
    rw [if_neg w]
    exact gOk_if (fun _ => gOk_some ⟨F13, Or.inl ⟨rfl, R13.1⟩⟩) (fun z => absurd h16 z)
theorem nTi_nStand (N : sqN) (n : Nat) (t x : Int32) : nTi (nStand N n t) x = nStand N n x := rfl
theorem ntm_nStand (N : sqN) (n : Nat) (t : Int32) : ntm (nStand N n t) = ntm N + 1 := rfl
theorem mX0_reset_stand (hn : n < 5) : ∀ μ9, RB μ9 q (zN (zS S 3 1) n (nStand (zno S n) n (nti (zno S n)))) → gOk (mX0_resetTimer nc q (5 * q + n) μ9) (fun μ12 => gFr (bnP (5 * q + n)) μ9 μ12 ∧ RB μ12 q (zN (zS S 3 1) n (nStand (zno S n) n (zTim S n (ntm (zno S n) + 1))))) := by
  intro μ9 R9
  have h := mX0_resetTimer_ok (nc := nc) R9 hn
  rw [zN_at, zN_zN, zTim_zN, zTim_zS, nTi_nStand, ntm_nStand] at h
  exact h
theorem mX0_stand_ok (h : RY B μ q S) (hB : B + 3 < 900000000) (hq : q < nc) (hnc : nc ≤ 2) (hn : n < 5) (hu : nup (zno S n) = true) (hm : zmem S (zno S n) n = true) : gOk (mX0_stand nc q (5 * q + n) μ) (fun p => gFr (rbP q) μ p.2 ∧ fnP (B + 1) q n (zStand S n) p) := by
  unfold zStand
  exact mX0_stand_x h hB hq hnc hn hu hm _ (mX0_reset_stand hn)
theorem mX0_countDown_ok (h : RY B μ q S) (hB : B + 3 < 900000000) (hq : q < nc) (hnc : nc ≤ 2) (hn : n < 5) : gOk (mX0_countDown nc q (5 * q + n) μ) (fun p => gFr (rbP q) μ p.2 ∧ fnP (B + 1) q n (zCnt S n) p) := by
  have hb := h.1.2.1 n hn
  have r0 := hb.1.2.1
  have r1 := hb.2.1
  unfold mX0_countDown zCnt
  by_cases hu : nup (zno S n) = true
  · rw [hu, if_pos rfl] at r0
    refine gOk_eq r0 (y := 0) (b := 0) rfl (fun z => absurd z (by decide)) (fun _ => ?_)
    refine gOk_jq (γ := Unit) (fun _ => nro (zno S n) = 2 ∨ zmem S (zno S n) n = true) (fun _ hc => ?_) (fun j2 hj2 => ?_)
    · rw [if_pos ⟨hu, hc⟩]
      have b3 : ∀ x, BN (w3 μ 11 (5 * q + n) 10 x) (5 * q + n) n (zg S) (nTi (zno S n) x) := fun x => hb.ti x
      have R3 : ∀ x, RB (w3 μ 11 (5 * q + n) 10 x) q (zN S n (nTi (zno S n) x)) := fun x => h.1.node hn (gFr.w ⟨rfl, by omega⟩) (b3 x)
      have e10 : (μ 11 (5 * q + n) 10) - 1 = nti (zno S n) - 1 := by rw [hb.2.2.1]
      rw [e10]
      generalize nti (zno S n) - 1 = y
      refine gOk_lee (fun μ3 h3 => ?_)
      have F3 : gFr (bnP (5 * q + n)) μ μ3 := by rw [h3]; exact gFr.w ⟨rfl, by omega⟩
      have c10 : μ3 11 (5 * q + n) 10 = y := by rw [h3, w3_at]
      have c6 : (μ3 11 (5 * q + n) 6).toInt = (nro (zno S n) : Int) := by rw [h3, w3_o _ _ (by omega)]; exact r1
      have RR := R3 y
      rw [← h3] at RR
      rw [c10]
      by_cases z : y = 0
      · rw [if_pos z, if_pos z]
        refine gOk_eq c6 (y := 2) (b := 2) rfl (fun w => ?_) (fun w => ?_)
        · have hr : nro (zno S n) = 2 := by omega
          rw [if_pos hr]
          have b7 := (RR.2.1 n hn).ti 3
          rw [zN_at] at b7
          refine gOk_lee (fun μ7 h7 => gOk_some ⟨(F3.up (bnP_rb hn)).tr (by rw [h7]; exact (gFr.w (P := bnP (5 * q + n)) ⟨rfl, by omega⟩).up (bnP_rb hn)), Or.inr (Or.inr (Or.inr ⟨rfl, zN S n (nTi (zno S n) 3), ⟨?_, ?_, by omega⟩, by rw [zN_at]; exact hr, rfl⟩))⟩)
          · have R7 := RR.node hn (μ' := μ7) (by rw [h7]; exact gFr.w ⟨rfl, by omega⟩) (by rw [h7]; exact b7)
            rw [zN_zN] at R7
            exact R7
          · have I7 := h.2.1.tin hn 3
            exact ⟨I7.1, I7.2.up (by omega)⟩
        · have hr : ¬ nro (zno S n) = 2 := by omega
          rw [if_neg hr]
          have RY3 : RY B μ3 q (zN S n (nTi (zno S n) y)) := ⟨RR, h.2.1.tin hn y, h.2.2⟩
          refine gOk_bd (mX0_stand_ok RY3 hB hq hnc hn (by rw [zN_at]; exact hu) (by rw [zN_at]; exact hc.resolve_left hr)) (fun r10 μ11 hp => gOk_some ⟨(F3.up (bnP_rb hn)).tr hp.1, hp.2⟩)
      · rw [if_neg z, if_neg z]
        exact gOk_some ⟨F3.up (bnP_rb hn), Or.inl ⟨rfl, RR⟩⟩
    · refine gOk_eq r1 (y := 2) (b := 2) rfl (fun z => hj2 () (Or.inl (by omega))) (fun z => ?_)
      refine gOk_bp (mX4_isMember_ok hb.1 (h.G hn) hn) (fun r15 h15 => ?_)
      by_cases w : zmem S (zno S n) n = true
      · rw [if_pos (show ((sqF (zg S) (nlg (zno S n))).1.testBit n || (sqF (zg S) (nlg (zno S n))).2.testBit n) = true from w)] at h15
        exact gOk_if (fun y => absurd (h15.symm.trans y) (by decide)) (fun _ => hj2 () (Or.inr w))
      · rw [if_neg (show ¬ ((sqF (zg S) (nlg (zno S n))).1.testBit n || (sqF (zg S) (nlg (zno S n))).2.testBit n) = true from w)] at h15
        refine gOk_if (fun _ => gOk_some ⟨gFr.rf, Or.inl ⟨rfl, ?_⟩⟩) (fun y => absurd h15 y)
        rw [if_neg (fun y => y.2.elim (fun v => z (by omega)) w)]
        exact h.1
  · have hu' := hu
    rw [Bool.not_eq_true] at hu'
    rw [hu', if_neg (by decide)] at r0
    refine gOk_eq r0 (y := 0) (b := 0) rfl (fun _ => gOk_some ⟨gFr.rf, Or.inl ⟨rfl, ?_⟩⟩) (fun z => absurd rfl z)
    rw [if_neg (fun z => hu z.1)]
    exact h.1
end SqClz
