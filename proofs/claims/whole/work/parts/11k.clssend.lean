/-! The class: sending. -/
section SqClS
variable {μ μ' μ1 : gM} {n g b k i nc B t t1 s q : Nat} {l : List sqE} {a1 a2 a3 : Int32} {e : sqE} {m : sqMs} {S S' : sqSt} {N : sqN}
theorem RB.post (h : RB μ q S) (hq : q < nc) (hnc : nc ≤ 2) (hm : BM μ (nwP μ q 40) (zg S) m) (hse : mse m < 5) (hre : mre m < 5) : gOk (mX3_post nc q μ) (fun μ' => gFr (npP q) μ μ' ∧ RB μ' q (zPost S m)) := by
  refine gOk_imp (mX3_post_ok h.1 hq hnc hm hse hre) (fun μ' hw => ⟨hw.1, h.net hw.2 (fun f i j z => hw.1 f i j (fun y => by have := y.2; omega)) ?_ ?_ ?_ (fun c hc => ?_) ?_ ?_⟩)
  · unfold zPost; split <;> rfl
  · unfold zPost; split <;> rfl
  · unfold zPost; split <;> rfl
  · unfold zPost
    split
    · show sqU1 (sqU1 (zst S) 1 _) 2 _ c = _
      rw [sqU1_ne (by omega), sqU1_ne (by omega)]
    · show sqU1 (zst S) 1 _ c = _
      rw [sqU1_ne (by omega)]
  · unfold zPost; split <;> rfl
  · unfold zPost; split <;> rfl
theorem RB.place (h : RB μ q S) (F : gFr (mgP (nwP μ q 40)) μ μ') : nwP μ' q 40 = nwP μ q 40 := by
  rw [nwP_40, nwP_40, F 9 q 1 (fun y => by have := y.2; omega)]
theorem mX0_sendTo_ok (h : RB μ q S) (hq : q < nc) (hnc : nc ≤ 2) (hn : n < 5) (hi : i < 5) (hr : nro (zno S n) = 2) (hT : zti S + zde S < 2000000000) (hB : (nlg (zno S n)).length < 900000000) (hnx : nnx (zno S n) i ≤ (nlg (zno S n)).length + 1) (h1 : a1.toInt = (i : Int)) : gOk (mX0_sendTo nc q (5 * q + n) a1 μ) (fun μ' => gFr (rbP q) μ μ' ∧ RB μ' q (zSnd S n i)) := by
  have hb := h.2.1 n hn
  have e2 := (hb.2.2.2.2 hr i hi).1
  have hrow := h.rows
  unfold mX0_sendTo zSnd
  simp only [ti_cl h1]
  refine gOk_chk (ti_inb h1 (by omega)) (gOk_lee (fun x2 hx => ?_))
  rw [← hx] at e2
  have fin : ∀ (μ6 : gM) (m : sqMs), gFr (mgP (nwP μ q 40)) μ μ6 → BM μ6 (nwP μ q 40) (zg S) m → mse m < 5 → mre m < 5 → gOk (gBp (mX3_post nc q μ6) fun μ9 => some μ9) (fun μ' => gFr (rbP q) μ μ' ∧ RB μ' q (zPost S m)) := fun μ6 m F6 b6 s6 r6 => by
    have h6 := h.draft F6
    refine gOk_bp (h6.post hq hnc (by rw [h.place F6]; exact b6) s6 r6) (fun μ9 h9 => gOk_some ⟨(F6.up (mgP_rb hrow.2 hrow.1)).tr (h9.1.up npP_rb), h9.2⟩)
  refine gOk_jon ?_
  have hcl := hb.1.2.2.2.2.2.1
  refine gOk_lt hcl.2.2.2.1 e2 (fun q1 => ?_) (fun q1 => ?_)
  · rw [if_neg (by omega)]
    refine gOk_bd (mX0_open_ok h hq hn hT (kd := 2) rfl h1) (fun r12 μ13 hp => ?_)
    obtain ⟨p1, p2, p3⟩ := hp
    have p1 : r12 = nwP μ q 40 := p1
    have p2 : gFr (mgP (nwP μ q 40)) μ μ13 := p2
    have p3 : opC μ13 (nwP μ q 40) 2 n i (ntm (zno S n)) (zti S + zde S) (zti S) := p3
    rw [p1]
    have ht := h.place p2
    generalize ht40 : nwP μ q 40 = t at *
    refine gOk_chk (by rw [← ht40]; exact h.1.num hq (by omega)) (gOk_lee (fun μ15 h15 => ?_))
    have ex : (x2 - 1).toInt = ((nnx (zno S n) i - 1 : Nat) : Int) := by rw [ti_sub e2 (y := 1) (b := 1) rfl (by omega) (by omega)]; omega
    have F15 : gFr (mgP t) μ μ15 := p2.tr (by rw [h15]; exact gFr.w ⟨rfl, by omega⟩)
    have C15 := ((h.draft (by rw [ht40]; exact F15)).2.1 n hn).1.2.2.2.2.2.1
    refine gOk_bp (mX1_termAt_ok C15 (by omega) ex (by omega) (by omega)) (fun r18 h18 => gOk_lee (fun μ19 h19 => gOk_lee (fun μ21 h21 => ?_)))
    have F19 : gFr (mgP t) μ μ19 := F15.tr (by rw [h19]; exact gFr.w ⟨rfl, by omega⟩)
    have F21 : gFr (mgP t) μ μ21 := F19.tr (by rw [h21]; exact gFr.w ⟨rfl, by omega⟩)
    rw [F19 11 _ 9 (fun y => by have := y.2; omega)] at h21
    have C21 := ((h.draft (by rw [ht40]; exact F21)).2.1 n hn).1.2.2.2.2.2.1
    refine gOk_bp (mX1_copyEntries_ok (t := t) C21 hB e2 (by omega) (by omega)) (fun μ24 h24 => ?_)
    obtain ⟨f24, m24⟩ := h24
    have c24 : ∀ j, j ≠ 3 → μ24 19 t j = μ21 19 t j := fun j hj => f24 19 t j (fun y => by have := y.2; omega)
    obtain ⟨o3, o4, o5, o6, o7, o8, o9, o10, o11, o12, o13⟩ := p3
    have up : ∀ j, j ≠ 3 → j ≠ 10 → j ≠ 11 → j ≠ 13 → μ24 19 t j = μ13 19 t j := fun j j1 j2 j3 j4 => by rw [c24 j j1, h21, w3_o _ _ (by omega), h19, w3_o _ _ (by omega), h15, w3_o _ _ (by omega)]
    refine fin μ24 _ (F21.tr (f24.up ceP_mg)) ⟨?_, ?_, ?_, ?_, ?_, ?_, ?_, ?_, fun z => (by cases z), fun z => (by rcases z with z | z <;> cases z), fun _ => ⟨?_, ?_, m24.1, m24⟩, fun z => (by cases z)⟩ hn hi
    · rw [up 4 (by omega) (by omega) (by omega) (by omega)]; exact o4
    · rw [up 5 (by omega) (by omega) (by omega) (by omega)]; exact o5
    · rw [up 6 (by omega) (by omega) (by omega) (by omega)]; exact o6
    · rw [up 7 (by omega) (by omega) (by omega) (by omega)]; exact o7
    · rw [up 8 (by omega) (by omega) (by omega) (by omega)]; exact o8
    · rw [up 9 (by omega) (by omega) (by omega) (by omega)]; exact o9
    · rw [c24 10 (by omega), h21, w3_o _ _ (by omega), h19, w3_o _ _ (by omega), h15, w3_at]; exact ex
    · rw [up 12 (by omega) (by omega) (by omega) (by omega)]; exact Or.inl o12
    · rw [c24 11 (by omega), h21, w3_o _ _ (by omega), h19, w3_at]; exact h18
    · rw [c24 13 (by omega), h21, w3_at]; exact hb.1.2.2.2.2.1
  · rw [if_pos (by omega)]
    refine gOk_bd (mX0_open_ok h hq hn hT (kd := 4) rfl h1) (fun r26 μ27 hp => ?_)
    obtain ⟨p1, p2, p3⟩ := hp
    have p1 : r26 = nwP μ q 40 := p1
    have p2 : gFr (mgP (nwP μ q 40)) μ μ27 := p2
    have p3 : opC μ27 (nwP μ q 40) 4 n i (ntm (zno S n)) (zti S + zde S) (zti S) := p3
    rw [p1]
    generalize ht40 : nwP μ q 40 = t at *
    refine gOk_chk (by rw [← ht40]; exact h.1.num hq (by omega)) ?_
    have C27 := ((h.draft (by rw [ht40]; exact p2)).2.1 n hn).1.2.2.2.2.2.1
    refine gOk_bp (mX1_copySnapshot_ok (t := t) C27) (fun μ30 h30 => ?_)
    obtain ⟨f30, c10, c11, c14, c15, c16⟩ := h30
    obtain ⟨o3, o4, o5, o6, o7, o8, o9, o10, o11, o12, o13⟩ := p3
    have up : ∀ j, j ≠ 10 → j ≠ 11 → ¬ (14 ≤ j ∧ j ≤ 16) → μ30 19 t j = μ27 19 t j := fun j j1 j2 j3 => f30 19 t j (fun y => by have := y.2.2; omega)
    refine fin μ30 _ (p2.tr (f30.up csP_mg)) ⟨?_, ?_, ?_, ?_, ?_, ?_, c10, ?_, fun z => (by cases z), fun z => (by rcases z with z | z <;> cases z), fun z => (by cases z), fun _ => ⟨c11, c14, c15, c16⟩⟩ hn hi
    · rw [up 4 (by omega) (by omega) (by omega)]; exact o4
    · rw [up 5 (by omega) (by omega) (by omega)]; exact o5
    · rw [up 6 (by omega) (by omega) (by omega)]; exact o6
    · rw [up 7 (by omega) (by omega) (by omega)]; exact o7
    · rw [up 8 (by omega) (by omega) (by omega)]; exact o8
    · rw [up 9 (by omega) (by omega) (by omega)]; exact o9
    · rw [up 12 (by omega) (by omega) (by omega)]; exact Or.inl o12
end SqClS
