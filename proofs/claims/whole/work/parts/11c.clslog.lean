/-! The class: packing, emptying and copying a log. -/
/-- the cells of the packed configuration -/
def cbP (n : Nat) : Nat → Nat → Nat → Prop := fun f i j => i = n ∧ f = 12 ∧ 7 ≤ j ∧ j ≤ 8
theorem cbP_cl {n : Nat} : ∀ f i j, cbP n f i j → clP n f i j := fun _ _ _ h => ⟨h.1, Or.inl (by have := h.2; omega)⟩
section SqCls3
variable {μ μ' : gM} {n g b k i nc B : Nat} {l : List sqE} {a1 a2 a3 : Int32} {e : sqE}
theorem mX1_termAt_cg (e3 : μ' 12 n 3 = μ 12 n 3) (e4 : μ' 12 n 4 = μ 12 n 4) (e5 : μ' 12 n 5 = μ 12 n 5) (ea : ∀ j, μ' 16 n j = μ 16 n j) : mX1_termAt nc n a1 μ' = mX1_termAt nc n a1 μ := by
  unfold mX1_termAt mX1_partAt
  simp only [e3, e4, e5, ea]
theorem mX1_isConfiguration_cg (ea : ∀ j, μ' 17 n j = μ 17 n j) : mX1_isConfiguration nc n a1 μ' = mX1_isConfiguration nc n a1 μ := by
  unfold mX1_isConfiguration
  simp only [ea]
theorem mX1_packTo_ok (h : CL μ n g l b) (hL : LL B l) (hB : l.length < 900000000) {ix : Nat} (h1 : a1.toInt = (ix : Int)) (hix : ix < 900000000) : gOk (mX1_packTo nc n a1 μ) (fun p => (¬ (b < ix ∧ ix ≤ l.length) → p = (0, μ)) ∧ (b < ix ∧ ix ≤ l.length → p.1.toInt = (ix : Int) - b ∧ gFr (clP n) μ p.2 ∧ CL p.2 n g l ix ∧ CF p.2 n g l ix)) := by
  have h' := h
  obtain ⟨r1, r2, r3, r4, r5, r6, r7, r8, r9⟩ := h'
  unfold mX1_packTo
  refine gOk_lee (fun x1 hx => ?_)
  have e1 : x1.toInt = (ix : Int) - b := by rw [hx, ti_sub h1 r4 (by omega) (by omega)]
  refine gOk_le e1 (y := 0) (b := 0) rfl (fun q => gOk_some ⟨fun _ => rfl, fun z => absurd z (by omega)⟩) (fun q => ?_)
  refine gOk_le e1 r1 (fun q2 => ?_) (fun q2 => gOk_some ⟨fun _ => rfl, fun z => absurd z (by omega)⟩)
  have k1 : b < ix := by omega
  have k2 : ix ≤ l.length := by omega
  refine gOk_bp (mX1_resultAt_ok h hB h1 (by omega) (by omega)) (fun r8' h8 => gOk_lee (fun μ9 h9 => ?_))
  have f9 : ∀ f j, (f ≠ 12 ∨ j ≠ 6) → μ9 f n j = μ f n j := fun f j hj => by rw [h9, w3_o _ _ (by omega)]
  rw [mX1_termAt_cg (f9 12 3 (by omega)) (f9 12 4 (by omega)) (f9 12 5 (by omega)) (fun j => f9 16 j (by omega))]
  refine gOk_bp (mX1_termAt_ok h (by omega) h1 (by omega) k2) (fun r12 h12 => gOk_lee (fun μ13 h13 => ?_))
  have f13 : ∀ f j, (f ≠ 12 ∨ (j ≠ 5 ∧ j ≠ 6)) → μ13 f n j = μ f n j := fun f j hj => by rw [h13, w3_o _ _ (by omega), f9 f j (by omega)]
  refine gOk_jq (P := fun μ15 => gFr (cbP n) μ13 μ15 ∧ (μ15 12 n 7).toInt = ((sqF g (l.take ix)).1 : Int) ∧ (μ15 12 n 8).toInt = ((sqF g (l.take ix)).2 : Int)) ?_ ?_
  · intro μ15 hc
    obtain ⟨c1, c2, c3⟩ := hc
    refine gOk_lee (fun μ17 h17 => ?_)
    have m17 : ∀ f j, (f ≠ 12 ∨ j = 3) → μ17 f n j = μ f n j := fun f j hj => by
      rw [h17, w3_o _ _ (by omega), c1 f n j (fun z => by have := z.2; omega), f13 f j (by omega)]
    have s17 : (μ17 12 n 3).toInt = ((l.length - b : Nat) : Int) := by rw [m17 12 3 (by omega), r1]; omega
    refine gOk_bp (mX1_dropFirst_ok s17 (by omega) (d := ix - b) (by rw [e1]; omega) (by omega)) (fun μ20 hd => ?_)
    obtain ⟨d1, d2, d3⟩ := hd
    have d4 : ∀ j, j ≠ 3 → μ20 12 n j = μ17 12 n j := fun j hj => d3 12 n j (fun z => by have := z.2; omega)
    have C : CL μ20 n g l ix := by
      refine ⟨by rw [d1]; omega, k2, by omega, ?_, ?_, ?_, ?_, ?_, fun j e hj => ?_⟩
      · rw [d4 4 (by omega), h17, w3_at, h1]
      · rw [d4 5 (by omega), h17, w3_o _ _ (by omega), c1 12 n 5 (fun z => by have := z.2; omega), h13, w3_at]; exact h12
      · rw [d4 6 (by omega), h17, w3_o _ _ (by omega), c1 12 n 6 (fun z => by have := z.2; omega), h13, w3_o _ _ (by omega), h9, w3_at]; exact h8
      · rw [d4 7 (by omega), h17, w3_o _ _ (by omega)]; exact c2
      · rw [d4 8 (by omega), h17, w3_o _ _ (by omega)]; exact c3
      · have hlt := sq_lt hj
        rw [d2 16 j (by omega) (by omega) (by omega), d2 17 j (by omega) (by omega) (by omega), d2 18 j (by omega) (by omega) (by omega), m17 16 _ (by omega), m17 17 _ (by omega), m17 18 _ (by omega)]
        exact r9 (j + (ix - b)) e (by rw [show b + (j + (ix - b)) = ix + j by omega]; exact hj)
    have F : gFr (clP n) μ μ20 := by
      have g1 : gFr (clP n) μ μ13 := by
        rw [h13, h9]
        exact (gFr.w ⟨rfl, Or.inl (by omega)⟩).tr (gFr.w ⟨rfl, Or.inl (by omega)⟩)
      have g2 : gFr (clP n) μ15 μ17 := by rw [h17]; exact gFr.w ⟨rfl, Or.inl (by omega)⟩
      exact g1.tr ((c1.up cbP_cl).tr (g2.tr (d3.up cdP_cl)))
    exact gOk_bp (mX1_findConfiguration_ok C hL (by omega)) (fun μ22 h22 => gOk_some ⟨fun z => absurd ⟨k1, k2⟩ z, fun _ => ⟨e1, F.tr (h22.1.up cfP_cl), h22.2.1, h22.2.2⟩⟩)
  · intro j16 hj16
    refine gOk_fx2 (fun v (x23 : Int32) (μ24 : gM) => ∃ j, v = ix - b - j ∧ j ≤ ix - b ∧ x23.toInt = (j : Int) ∧ gFr (cbP n) μ13 μ24 ∧ (μ24 12 n 7).toInt = ((sqF g (l.take (b + j))).1 : Int) ∧ (μ24 12 n 8).toInt = ((sqF g (l.take (b + j))).2 : Int)) ?_ 1000000 (ix - b) _ _ (by omega) ⟨0, rfl, Nat.zero_le _, rfl, gFr.rf, by rw [f13 12 7 (by omega)]; exact r7, by rw [f13 12 8 (by omega)]; exact r8⟩
    intro rec v x23 μ24 hI ih
    obtain ⟨j, hv, j1, j2, j3, j4, j5⟩ := hI
    subst hv
    refine gOk_le e1 j2 (fun q3 => ?_) (fun q3 => ?_)
    · have hj : b + j = ix := by omega
      rw [hj] at j4 j5
      exact hj16 _ ⟨j3, j4, j5⟩
    · refine gOk_le (x := 24) (a := 24) rfl j2 (fun q4 => absurd q4 (by omega)) (fun q4 => ?_)
      have hlt : b + j < l.length := by omega
      have hg : l[b + j]? = some l[b + j] := List.getElem?_eq_getElem hlt
      have hf := sqF_snoc g (l.take (b + j)) l[b + j]
      rw [← List.take_succ_eq_append_getElem hlt] at hf
      have ej : (x23 + 1).toInt = ((j + 1 : Nat) : Int) := by rw [ti_add j2 (y := 1) (b := 1) rfl (by omega) (by omega)]; omega
      have f24 : ∀ f j, f ≠ 12 → μ24 f n j = μ f n j := fun f j hj => by rw [j3 f n j (fun z => hj z.2.1), f13 f j (Or.inl hj)]
      rw [mX1_isConfiguration_cg (fun j => f24 17 j (by omega))]
      refine gOk_bp (mX1_isConfiguration_ok h hg j2) (fun r29 h29 => ?_)
      have hLE := hL _ (List.getElem_mem hlt)
      have pv := (r9 j _ hg).2.2
      rw [← f24 18 j (by omega)] at pv
      generalize l[b + j] = e at *
      cases hc : sqC e with
      | none =>
        rw [hc] at h29 hf
        refine gOk_if (fun _ => ih _ _ (ix - b - (j + 1)) (by omega) ⟨j + 1, rfl, by omega, ej, j3, ?_, ?_⟩) (fun z => absurd h29 z)
        · rw [show b + (j + 1) = b + j + 1 by omega, hf]; exact j4
        · rw [show b + (j + 1) = b + j + 1 by omega, hf]; exact j5
      | some c =>
        rw [hc] at h29 hf
        obtain ⟨v1, v2⟩ := hLE.cfg hc
        have h29 : r29 = 1 := h29
        refine gOk_if (fun z => absurd (h29.symm.trans z) (by decide)) (fun _ => gOk_chk (ti_inb j2 (by omega)) (gOk_let (gOk_chk (ti_inb j2 (by omega)) (gOk_let (ih _ _ (ix - b - (j + 1)) (by omega) ⟨j + 1, rfl, by omega, ej, j3.tr ((gFr.w ⟨rfl, rfl, by omega, by omega⟩).tr (gFr.w ⟨rfl, rfl, by omega, by omega⟩)), ?_, ?_⟩)))))
        · rw [w3_o _ _ (by omega), w3_at, ti_cl j2, pv, v1]
          rw [show b + (j + 1) = b + j + 1 by omega, hf]; rfl
        · rw [w3_at, ti_cl j2, w3_o _ _ (by omega), pv, v2]
          rw [show b + (j + 1) = b + j + 1 by omega, hf]; rfl
theorem mX1_clear_ok (h1 : a1.toInt = (g : Int)) : gOk (mX1_clear nc n a1 μ) (fun μ' => gFr (clP n) μ μ' ∧ CL μ' n g [] 0 ∧ CF μ' n g [] 0) := by
  unfold mX1_clear
  refine gOk_lee (fun μ1 h1' => gOk_lee (fun μ3 h3 => gOk_lee (fun μ5 h5 => gOk_lee (fun μ7 h7 => gOk_lee (fun μ9 h9 => gOk_lee (fun μ11 h11 => ?_))))))
  have F : gFr (clP n) μ μ11 := by
    rw [h11, h9, h7, h5, h3, h1']
    exact (gFr.w ⟨rfl, Or.inl (by omega)⟩).tr ((gFr.w ⟨rfl, Or.inl (by omega)⟩).tr ((gFr.w ⟨rfl, Or.inl (by omega)⟩).tr ((gFr.w ⟨rfl, Or.inl (by omega)⟩).tr ((gFr.w ⟨rfl, Or.inl (by omega)⟩).tr (gFr.w ⟨rfl, Or.inl (by omega)⟩)))))
  have C : CL μ11 n g [] 0 := by
    refine ⟨?_, Nat.le_refl _, Nat.zero_le _, ?_, ?_, ?_, ?_, ?_, fun j f hj => ?_⟩
    · rw [h11, w3_o _ _ (by omega), h9, w3_o _ _ (by omega), h7, w3_o _ _ (by omega), h5, w3_o _ _ (by omega), h3, w3_o _ _ (by omega), h1', w3_at]; rfl
    · rw [h11, w3_o _ _ (by omega), h9, w3_o _ _ (by omega), h7, w3_o _ _ (by omega), h5, w3_o _ _ (by omega), h3, w3_at]; rfl
    · rw [h11, w3_o _ _ (by omega), h9, w3_o _ _ (by omega), h7, w3_o _ _ (by omega), h5, w3_at]; rfl
    · rw [h11, w3_o _ _ (by omega), h9, w3_o _ _ (by omega), h7, w3_at]; rfl
    · rw [h11, w3_o _ _ (by omega), h9, w3_at]; rfl
    · rw [h11, w3_at]; exact h1
    · cases hj
  exact gOk_bp (mX1_findConfiguration_ok (B := 0) C (fun e he => by cases he) (Nat.le_of_ble_eq_true rfl)) (fun μ14 h14 => gOk_some ⟨F.tr (h14.1.up cfP_cl), h14.2.1, h14.2.2⟩)
end SqCls3
