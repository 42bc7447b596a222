/-! The class: copying a cluster. -/
section SqClk
variable {μ μ' μ1 : gM} {n g b k i nc B t t1 s q kk q0 k0 : Nat} {l : List sqE} {a1 a2 a3 a4 : Int32} {e : sqE} {m : sqMs} {S S' : sqSt} {N : sqN} {h : sqH}
theorem mX4_copyFrom_ok (hk : k0 ≠ k) (h0 : (μ 11 k0 0).toInt = (n : Int)) (h : BN μ k n g N) (hL : LL B (nlg N)) (hB : (nlg N).length < 900000000) : gOk (mX4_copyFrom nc k0 k μ) (fun μ' => gFr (bnP k0) μ μ' ∧ BN μ' k0 n g N) := by
  have hb := h
  obtain ⟨⟨r0, r5, r7, r8, r9, hl, hf⟩, r6, r10, r11, r13⟩ := h
  unfold mX4_copyFrom
  refine gOk_bp (mX1_copyFrom_ok hk hl hL hB) (fun μ2 h2 => ?_)
  obtain ⟨F2, c2, f2⟩ := h2
  refine gOk_lee (fun μ3 h3 => gOk_lee (fun μ5 h5 => gOk_lee (fun μ7 h7 => ?_)))
  have F7 : gFr (bnP k0) μ μ7 := by
    rw [h7, h5, h3]
    exact (F2.up clP_bn).tr ((cp3_fq (fun j => ⟨rfl, by omega⟩)).tr ((cp3_fq (fun j => ⟨rfl, by omega⟩)).tr (cp3_fq (fun j => ⟨rfl, by omega⟩))))
  have s7 : ∀ f j, μ7 f k j = μ f k j := fun f j => F7 f k j (fun z => hk z.1.symm)
  have l7 : ∀ f j, ¬ (13 ≤ f ∧ f ≤ 15) → μ7 f k0 j = μ2 f k0 j := fun f j hf => by rw [h7, cp3_p (by omega), h5, cp3_p (by omega), h3, cp3_p (by omega)]
  have a2 : ∀ f j, 13 ≤ f → f ≤ 15 → μ2 f k j = μ f k j := fun f j _ _ => F2 f k j (fun z => hk z.1.symm)
  have a7 : ∀ f j, 13 ≤ f → f ≤ 15 → j < 5 → μ7 f k0 j = μ f k j := fun f j f1 f2 hj => by
    rcases (show f = 13 ∨ f = 14 ∨ f = 15 by omega) with z | z | z
    · rw [z, h7, cp3_p (by omega), h5, cp3_p (by omega), h3, cp3_src hj, a2 13 j (by omega) (by omega)]
    · rw [z, h7, cp3_p (by omega), h5, cp3_src hj, h3, cp3_p (by omega), a2 14 j (by omega) (by omega)]
    · rw [z, h7, cp3_src hj, h5, cp3_p (by omega), h3, cp3_p (by omega), a2 15 j (by omega) (by omega)]
  have h51 : (μ7 11 k 5) = 0 ∨ (μ7 11 k 5) = 1 := by
    rw [s7]
    by_cases z : nup N = true
    · rw [z, if_pos rfl] at r5
      exact Or.inr (ti_eq r5 rfl)
    · rw [if_neg z] at r5
      exact Or.inl (ti_eq r5 rfl)
  refine gOk_chk h51 (gOk_lee (fun μ10 h10 => gOk_lee (fun μ12 h12 => gOk_lee (fun μ14 h14 => gOk_lee (fun μ16 h16 => gOk_lee (fun μ18 h18 => gOk_lee (fun μ20 h20 => gOk_lee (fun μ22 h22 => gOk_some ?_))))))))
  have s10 : ∀ j, μ10 11 k j = μ 11 k j := fun j => by rw [h10, w3_o _ _ (by omega)]; exact s7 11 j
  have s12 : ∀ j, μ12 11 k j = μ 11 k j := fun j => by rw [h12, w3_o _ _ (by omega)]; exact s10 j
  have s14 : ∀ j, μ14 11 k j = μ 11 k j := fun j => by rw [h14, w3_o _ _ (by omega)]; exact s12 j
  have s16 : ∀ j, μ16 11 k j = μ 11 k j := fun j => by rw [h16, w3_o _ _ (by omega)]; exact s14 j
  have s18 : ∀ j, μ18 11 k j = μ 11 k j := fun j => by rw [h18, w3_o _ _ (by omega)]; exact s16 j
  have s20 : ∀ j, μ20 11 k j = μ 11 k j := fun j => by rw [h20, w3_o _ _ (by omega)]; exact s18 j
  rw [s7] at h10
  rw [s10] at h12
  rw [s12] at h14
  rw [s14] at h16
  rw [s16] at h18
  rw [s18] at h20
  rw [s20] at h22
  have o : ∀ f j, (f ≠ 11 ∨ j = 0) → μ22 f k0 j = μ7 f k0 j := fun f j hf => by rw [h22, w3_o _ _ (by omega), h20, w3_o _ _ (by omega), h18, w3_o _ _ (by omega), h16, w3_o _ _ (by omega), h14, w3_o _ _ (by omega), h12, w3_o _ _ (by omega), h10, w3_o _ _ (by omega)]
  refine ⟨?_, ⟨?_, ?_, ?_, ?_, ?_, c2.cg (fun j _ _ => by rw [o 12 j (by omega)]; exact l7 12 j (by omega)) (fun f j _ _ _ => by rw [o f j (by omega)]; exact l7 f j (by omega)), ?_⟩, ?_, ?_, fun r => ?_, fun r u hu => ?_⟩
  · rw [h22, h20, h18, h16, h14, h12, h10]
    exact F7.tr ((gFr.w ⟨rfl, by omega⟩).tr ((gFr.w ⟨rfl, by omega⟩).tr ((gFr.w ⟨rfl, by omega⟩).tr ((gFr.w ⟨rfl, by omega⟩).tr ((gFr.w ⟨rfl, by omega⟩).tr ((gFr.w ⟨rfl, by omega⟩).tr (gFr.w ⟨rfl, by omega⟩)))))))
  · rw [o 11 0 (by omega), F7 11 k0 0 (fun z => by have := z.2; omega)]; exact h0
  · rw [h22, w3_o _ _ (by omega), h20, w3_o _ _ (by omega), h18, w3_o _ _ (by omega), h16, w3_o _ _ (by omega), h14, w3_o _ _ (by omega), h12, w3_o _ _ (by omega), h10, w3_at]; exact r5
  · rw [h22, w3_o _ _ (by omega), h20, w3_o _ _ (by omega), h18, w3_o _ _ (by omega), h16, w3_o _ _ (by omega), h14, w3_at]; exact r7
  · rw [h22, w3_o _ _ (by omega), h20, w3_o _ _ (by omega), h18, w3_o _ _ (by omega), h16, w3_at]; exact r8
  · rw [h22, w3_o _ _ (by omega), h20, w3_o _ _ (by omega), h18, w3_at]; exact r9
  · unfold CF
    rw [o 12 9 (by omega), o 12 10 (by omega), o 12 11 (by omega), l7 12 9 (by omega), l7 12 10 (by omega), l7 12 11 (by omega)]
    exact f2
  · rw [h22, w3_o _ _ (by omega), h20, w3_o _ _ (by omega), h18, w3_o _ _ (by omega), h16, w3_o _ _ (by omega), h14, w3_o _ _ (by omega), h12, w3_at]; exact r6
  · rw [h22, w3_o _ _ (by omega), h20, w3_at]; exact r10
  · rw [h22, w3_at]; exact r11 r
  · rw [o 13 u (by omega), o 14 u (by omega), o 15 u (by omega), a7 13 u (by omega) (by omega) hu, a7 14 u (by omega) (by omega) hu, a7 15 u (by omega) (by omega) hu]
    exact r13 r u hu
/-- the cells that copying a network reaches -/
def ncP (q : Nat) : Nat → Nat → Nat → Prop := fun f i j => i = q ∧ f = 9 ∧ 3 ≤ j ∨ (42 * q ≤ i ∧ i < 42 * q + 42) ∧ (f = 19 ∧ 3 ≤ j ∨ 20 ≤ f ∧ f ≤ 22)
theorem ncP_rb {q : Nat} : ∀ f i j, ncP q f i j → rbP q f i j := fun _ _ _ h => h.elim (fun z => Or.inl ⟨z.1, by omega⟩) (fun z => Or.inr (Or.inr ⟨z.1, by have := z.2; omega⟩))
theorem mX3_copyFrom_ok (hne : q0 ≠ q) (hq0 : q0 < nc) (hq : q < nc) (hw : NWq μ q0) (h : NW μ q S) : gOk (mX3_copyFrom nc q0 q μ) (fun μ' => gFr (ncP q0) μ μ' ∧ NW μ' q0 S) := by
  obtain ⟨k1, k2, k3, k4, k5, k6, k7, k8⟩ := h
  unfold mX3_copyFrom
  refine gOk_lee (fun μ1 h1 => gOk_lee (fun μ3 h3 => gOk_lee (fun μ5 h5 => gOk_lee (fun μ7 h7 => gOk_lee (fun μ9 h9 => ?_)))))
  have s1 : ∀ j, μ1 9 q j = μ 9 q j := fun j => by rw [h1, w3_o _ _ (by omega)]
  have s3 : ∀ j, μ3 9 q j = μ 9 q j := fun j => by rw [h3, w3_o _ _ (by omega)]; exact s1 j
  have s5 : ∀ j, μ5 9 q j = μ 9 q j := fun j => by rw [h5, w3_o _ _ (by omega)]; exact s3 j
  have s7 : ∀ j, μ7 9 q j = μ 9 q j := fun j => by rw [h7, w3_o _ _ (by omega)]; exact s5 j
  rw [s1] at h3
  rw [s3] at h5
  rw [s5] at h7
  rw [s7] at h9
  have F9 : gFr (ncP q0) μ μ9 := by
    rw [h9, h7, h5, h3, h1]
    exact (gFr.w (Or.inl ⟨rfl, rfl, by omega⟩)).tr ((gFr.w (Or.inl ⟨rfl, rfl, by omega⟩)).tr ((gFr.w (Or.inl ⟨rfl, rfl, by omega⟩)).tr ((gFr.w (Or.inl ⟨rfl, rfl, by omega⟩)).tr (gFr.w (Or.inl ⟨rfl, rfl, by omega⟩)))))
  have g3 : μ9 9 q0 3 = μ 9 q 3 := by rw [h9, w3_o _ _ (by omega), h7, w3_o _ _ (by omega), h5, w3_o _ _ (by omega), h3, w3_o _ _ (by omega), h1, w3_at]
  have g4 : μ9 9 q0 4 = μ 9 q 4 := by rw [h9, w3_o _ _ (by omega), h7, w3_o _ _ (by omega), h5, w3_o _ _ (by omega), h3, w3_at]
  have g5 : μ9 9 q0 5 = μ 9 q 5 := by rw [h9, w3_o _ _ (by omega), h7, w3_o _ _ (by omega), h5, w3_at]
  have g6 : μ9 9 q0 6 = μ 9 q 6 := by rw [h9, w3_o _ _ (by omega), h7, w3_at]
  have g7 : μ9 9 q0 7 = μ 9 q 7 := by rw [h9, w3_at]
  have pl : ∀ {μ' : gM}, gFr (ncP q0) μ μ' → (∀ i, nwP μ' q0 i = nwP μ q0 i) ∧ (∀ i, nwP μ' q i = nwP μ q i) := fun F => by
    have o : ∀ f q' j, (f = 9 ∧ j < 3 ∨ f = 10) → _ = μ f q' j := fun f q' j hf => F f q' j (fun z => by
      rcases z with z | z
      · omega
      · omega)
    exact ⟨fun i => nwP_cg (fun _ => o 10 q0 i (by omega)) (fun _ => o 9 q0 1 (by omega)) (fun _ => o 9 q0 2 (by omega)), fun i => nwP_cg (fun _ => o 10 q i (by omega)) (fun _ => o 9 q 1 (by omega)) (fun _ => o 9 q 2 (by omega))⟩
  refine gOk_jq (γ := gM) (fun μ11 => gFr (ncP q0) μ μ11 ∧ (∀ j, μ11 9 q0 j = μ9 9 q0 j) ∧ ∀ (i : Nat) (m : sqMs), (zms S)[i]? = some m → BM μ11 (nwP μ q0 i) (zg S) m) (fun μ11 hc => gOk_some ?_) (fun j12 hj12 => ?_)
  · obtain ⟨F11, e11, b11⟩ := hc
    refine ⟨F11, hw.perm (fun i => i) (fun i _ => (pl F11).1 i) (fun i hi => hi) (fun i j _ _ e => e), by rw [e11, g3]; exact k2, k3, fun i j hi hj => by rw [e11, g4]; exact k4 i j hi hj, by rw [e11, g5]; exact k5, by rw [e11, g6]; exact k6, by rw [e11, g7]; exact k7, fun i m hm => by rw [(pl F11).1 i]; exact b11 i m hm⟩
  · refine gOk_fx2 (fun v (x13 : Int32) (μ14 : gM) => ∃ j : Nat, v = (zms S).length - j ∧ j ≤ (zms S).length ∧ x13.toInt = (j : Int) ∧ gFr (ncP q0) μ μ14 ∧ (∀ j, μ14 9 q0 j = μ9 9 q0 j) ∧ ∀ (i : Nat) (m : sqMs), i < j → (zms S)[i]? = some m → BM μ14 (nwP μ q0 i) (zg S) m) ?_ 1000000 (zms S).length _ _ (by omega) ⟨0, rfl, Nat.zero_le _, rfl, F9, fun _ => rfl, fun i m hi => absurd hi (Nat.not_lt_zero i)⟩
    intro rec v x13 μ14 hI ih
    obtain ⟨j, hv, j1, j2, j3, j4, j5⟩ := hI
    subst hv
    have c3 : (μ14 9 q0 3).toInt = ((zms S).length : Int) := by rw [j4, g3]; exact k2
    refine gOk_le c3 j2 (fun z => hj12 _ ⟨j3, j4, fun i m hm => j5 i m (by have := (List.getElem?_eq_some_iff.mp hm).1; omega) hm⟩) (fun z => ?_)
    refine gOk_le (x := 40) (a := 40) rfl j2 (fun z2 => absurd z2 (by omega)) (fun z2 => ?_)
    have hlt : j < (zms S).length := by omega
    have e1 : (x13 + 1).toInt = ((j + 1 : Nat) : Int) := by rw [ti_add j2 (y := 1) (b := 1) rfl (by omega) (by omega)]; omega
    have p := ti_inb (n := 40) j2 (by omega)
    simp only [ti_cl j2]
    rw [← nwP_lt (μ := μ14) (q := q0) (i := j) (by omega), ← nwP_lt (μ := μ14) (q := q) (i := j) (by omega), (pl j3).1, (pl j3).2]
    have r0 := hw.1 j (by omega)
    have r1 := k1.1 j (by omega)
    have hm := List.getElem?_eq_getElem hlt
    have bm : BM μ14 (nwP μ q j) (zg S) (zms S)[j] := (k8 j _ hm).cg (fun c _ _ => j3 19 _ c (fun z => by
      rcases z with z | z
      · omega
      · omega)) (fun f c f1 f2 _ => j3 f _ c (fun z => by
      rcases z with z | z
      · omega
      · omega))
    generalize (zms S)[j] = m at *
    refine gOk_chk p (gOk_let (gOk_chk (by omega) (gOk_chk p (gOk_let (gOk_chk (by omega) (gOk_bp (mX2_copyFrom_ok (by omega) bm) (fun μ27 h27 => ?_)))))))
    obtain ⟨F27, b27⟩ := h27
    have F27' : gFr (ncP q0) μ14 μ27 := F27.up (fun f i c z => Or.inr ⟨by have := z.1; omega, z.2⟩)
    refine ih _ _ ((zms S).length - (j + 1)) (by omega) ⟨j + 1, rfl, by omega, e1, j3.tr F27', fun c => by rw [F27 9 q0 c (fun z => by have := z.2; omega)]; exact j4 c, fun i m' hi hm' => ?_⟩
    by_cases w : i = j
    · subst w
      rw [hm] at hm'
      cases Option.some.inj hm'
      exact b27
    · have ne : nwP μ q0 i ≠ nwP μ q0 j := fun y => w (hw.2 i j (by omega) (by omega) y)
      exact (j5 i m' (by omega) hm').cg (fun c _ _ => F27 19 _ c (fun z => ne z.1)) (fun f c _ _ _ => F27 f _ c (fun z => ne z.1))
theorem mX0_copyFrom_ok (hne : q0 ≠ q) (hq0 : q0 < nc) (hq : q < nc) (hw : RW μ q0) (h : RY B μ q S) : gOk (mX0_copyFrom nc q0 q μ) (fun μ' => gFr (rbP q0) μ μ' ∧ RB μ' q0 S) := by
  obtain ⟨w, bn, c3, c4, c5, c8⟩ := h.1
  have hlen := fun n hn => h.len (n := n) hn
  have hLL := fun n hn => (h.2.1.2.2.2.2.1 n hn).2.2.1
  unfold mX0_copyFrom
  refine gOk_lee (fun μ1 h1 => gOk_lee (fun μ3 h3 => gOk_lee (fun μ5 h5 => gOk_lee (fun μ7 h7 => gOk_lee (fun μ9 h9 => gOk_lee (fun μ11 h11 => gOk_lee (fun μ13 h13 => ?_)))))))
  have s1 : ∀ j, μ1 6 q j = μ 6 q j := fun j => by rw [h1, w3_o _ _ (by omega)]
  have s3 : ∀ j, μ3 6 q j = μ 6 q j := fun j => by rw [h3, w3_o _ _ (by omega)]; exact s1 j
  have s5 : ∀ j, μ5 6 q j = μ 6 q j := fun j => by rw [h5, w3_o _ _ (by omega)]; exact s3 j
  have s7 : ∀ j, μ7 6 q j = μ 6 q j := fun j => by rw [h7, w3_o _ _ (by omega)]; exact s5 j
  have s9 : ∀ j, μ9 6 q j = μ 6 q j := fun j => by rw [h9, w3_o _ _ (by omega)]; exact s7 j
  rw [s1] at h3
  rw [s3] at h5
  rw [s5] at h7
  rw [s7] at h9
  rw [s9] at h11
  have F11 : gFr (rcP q0) μ μ11 := by
    rw [h11, h9, h7, h5, h3, h1]
    exact (gFr.w ⟨rfl, Or.inl rfl⟩).tr ((gFr.w ⟨rfl, Or.inl rfl⟩).tr ((gFr.w ⟨rfl, Or.inl rfl⟩).tr ((gFr.w ⟨rfl, Or.inl rfl⟩).tr ((gFr.w ⟨rfl, Or.inl rfl⟩).tr (gFr.w ⟨rfl, Or.inl rfl⟩)))))
  have F13 : gFr (rcP q0) μ μ13 := F11.tr (by rw [h13]; exact cp3_fq (fun j => ⟨rfl, Or.inr rfl⟩))
  have g6 : ∀ j, 3 ≤ j → j ≤ 8 → μ13 6 q0 j = μ 6 q j := fun j j1 j2 => by
    rw [h13, cp3_p (by omega)]
    rcases (show j = 3 ∨ j = 4 ∨ j = 5 ∨ j = 6 ∨ j = 7 ∨ j = 8 by omega) with z | z | z | z | z | z
    · rw [z, h11, w3_o _ _ (by omega), h9, w3_o _ _ (by omega), h7, w3_o _ _ (by omega), h5, w3_o _ _ (by omega), h3, w3_o _ _ (by omega), h1, w3_at]
    · rw [z, h11, w3_o _ _ (by omega), h9, w3_o _ _ (by omega), h7, w3_o _ _ (by omega), h5, w3_o _ _ (by omega), h3, w3_at]
    · rw [z, h11, w3_o _ _ (by omega), h9, w3_o _ _ (by omega), h7, w3_o _ _ (by omega), h5, w3_at]
    · rw [z, h11, w3_o _ _ (by omega), h9, w3_o _ _ (by omega), h7, w3_at]
    · rw [z, h11, w3_o _ _ (by omega), h9, w3_at]
    · rw [z, h11, w3_at]
  have g8 : ∀ t, t < 100 → μ13 8 q0 t = μ 8 q t := fun t ht => by rw [h13, cp3_src ht]; exact F11 8 q t (fun z => hne z.1.symm)
  have R13 := h.1.fr hne (F13.up rcP_rb)
  have w13 : NWq μ13 q0 := hw.1.cg (fun j _ => F13 9 q0 j (fun z => by have := z.2; omega)) (fun j => F13 10 q0 j (fun z => by have := z.2; omega))
  refine gOk_bp (mX3_copyFrom_ok hne hq0 hq w13 R13.1) (fun μ16 h16 => ?_)
  obtain ⟨F16, W16⟩ := h16
  have R16 := R13.fr hne (F16.up ncP_rb)
  have i16 : ∀ n, n < 5 → (μ16 11 (5 * q0 + n) 0).toInt = (n : Int) := fun n hn => by
    rw [F16 11 _ 0 (fun z => by rcases z with z | z <;> omega), F13 11 _ 0 (fun z => by have := z.2; omega)]
    exact hw.2 n hn
  refine gOk_jq (γ := gM) (fun μ17 => gFr (fun f i j => 5 * q0 ≤ i ∧ i < 5 * q0 + 5 ∧ 11 ≤ f ∧ f ≤ 18) μ16 μ17 ∧ ∀ n, n < 5 → BN μ17 (5 * q0 + n) n (zg S) (zno S n)) (fun μ17 hc => gOk_some ?_) (fun j18 hj18 => ?_)
  · obtain ⟨F17, b17⟩ := hc
    have d6 : ∀ j, 3 ≤ j → j ≤ 8 → μ17 6 q0 j = μ 6 q j := fun j j1 j2 => by rw [F17 6 q0 j (by omega), F16 6 q0 j (fun z => by rcases z with z | z <;> omega)]; exact g6 j j1 j2
    refine ⟨(F13.up rcP_rb).tr ((F16.up ncP_rb).tr (F17.up (fun f i j z => Or.inr (Or.inl ⟨⟨z.1, z.2.1⟩, z.2.2⟩)))), ?_, b17, ?_, ?_, fun c h1 h2 => ?_, fun t ht => ?_⟩
    · exact W16.cg (fun j => F17 9 q0 j (by omega)) (fun j => F17 10 q0 j (by omega)) (fun f i j _ _ => F17 f i j (by omega))
    · rw [d6 3 (by omega) (by omega)]; exact c3
    · rw [d6 4 (by omega) (by omega)]; exact c4
    · rw [d6 _ (by omega) (by omega)]; exact c5 c h1 h2
    · rw [F17 8 q0 t (by omega), F16 8 q0 t (fun z => by rcases z with z | z <;> omega), g8 t ht]; exact c8 t ht
  · refine gOk_fx2 (fun v (x19 : Int32) (μ20 : gM) => ∃ j : Nat, v = 5 - j ∧ j ≤ 5 ∧ x19.toInt = (j : Int) ∧ gFr (fun f i j => 5 * q0 ≤ i ∧ i < 5 * q0 + 5 ∧ 11 ≤ f ∧ f ≤ 18) μ16 μ20 ∧ (∀ n, n < 5 → (μ20 11 (5 * q0 + n) 0).toInt = (n : Int)) ∧ ∀ n, n < j → BN μ20 (5 * q0 + n) n (zg S) (zno S n)) ?_ 1000000 5 _ _ (by omega) ⟨0, rfl, Nat.zero_le _, rfl, gFr.rf, i16, fun n hn => absurd hn (Nat.not_lt_zero n)⟩
    intro rec v x19 μ20 hI ih
    obtain ⟨j, hv, j1, j2, j3, j4, j5⟩ := hI
    subst hv
    refine gOk_le (x := 5) (a := 5) rfl j2 (fun z => hj18 _ ⟨j3, fun n hn => j5 n (by omega)⟩) (fun z => ?_)
    have hj5 : j < 5 := by omega
    have e1 : (x19 + 1).toInt = ((j + 1 : Nat) : Int) := by rw [ti_add j2 (y := 1) (b := 1) rfl (by omega) (by omega)]; omega
    have p5 := ti_inb (n := 5) j2 hj5
    simp only [ti_cl j2]
    have bsrc : BN μ20 (5 * q + j) j (zg S) (zno S j) := (R16.2.1 j hj5).same (fun f c _ _ => j3 f _ c (by omega))
    refine gOk_chk p5 (gOk_chk p5 (gOk_bp (mX4_copyFrom_ok (by omega) (j4 j hj5) bsrc (hLL j hj5) (hlen j hj5)) (fun μ26 h26 => ?_)))
    obtain ⟨F26, b26⟩ := h26
    refine ih _ _ (5 - (j + 1)) (by omega) ⟨j + 1, rfl, by omega, e1, j3.tr (F26.up (fun f i j' z => by have := z.1; have := z.2; omega)), fun n hn => ?_, fun n hn => ?_⟩
    · rw [F26 11 _ 0 (fun z => by have := z.2; omega)]; exact j4 n hn
    · by_cases w : n = j
      · subst w; exact b26
      · exact (j5 n (by omega)).same (fun f j' _ _ => F26 f _ j' (fun z => by have := z.1; omega))
end SqClk
