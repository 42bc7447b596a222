/-! The class: the methods of a log that change it. -/
/-- the cells that a log's change may reach -/
def clP (n : Nat) : Nat → Nat → Nat → Prop := fun f i j => i = n ∧ (f = 12 ∧ 3 ≤ j ∧ j ≤ 11 ∨ 16 ≤ f ∧ f ≤ 18)
theorem cfP_cl {n : Nat} : ∀ f i j, cfP n f i j → clP n f i j := fun _ _ _ h => ⟨h.2.1, Or.inl ⟨h.1, by have := h.2.2; omega, h.2.2.2⟩⟩
theorem sqTT_take {l : List sqE} {b k : Nat} (h : b ≤ k) (hk : k ≤ l.length) : sqTT (l.take k) b = sqTT l b :=
  sqTT_A (i := k) ⟨by rw [List.length_take]; omega, hk, fun j hj => by rw [List.getElem?_take, if_pos hj]⟩ h
theorem sqTT_app {l : List sqE} {e : sqE} {b : Nat} (h : b ≤ l.length) : sqTT (l ++ [e]) b = sqTT l b :=
  sqTT_A (i := l.length) ⟨by rw [List.length_append]; omega, Nat.le_refl _, fun j hj => by rw [List.getElem?_append_left hj]⟩ h
section SqCls2
variable {μ μ' : gM} {n g b k i nc B : Nat} {l : List sqE} {a1 a2 a3 : Int32} {e : sqE}
theorem mX1_append_ok (h : CL μ n g l b) (hL : LL B (l ++ [e])) (hB : l.length < 900000000) (h1 : a1.toInt = (sqT e : Int)) (h2 : a2.toInt = (e.2.1 : Int)) (h3 : a3 = e.2.2) : gOk (mX1_append nc n a1 a2 a3 μ) (fun p => (l.length < b + 24 → p.1 = 1 ∧ gFr (clP n) μ p.2 ∧ CL p.2 n g (l ++ [e]) b ∧ CF p.2 n g (l ++ [e]) b) ∧ (b + 24 ≤ l.length → p = (0, μ))) := by
  have h' := h
  obtain ⟨r1, r2, r3, r4, r5, r6, r7, r8, r9⟩ := h'
  have e1 : (μ 12 n 3).toInt = ((l.length - b : Nat) : Int) := by rw [r1]; omega
  unfold mX1_append
  refine gOk_lt e1 (y := 0) (b := 0) rfl (fun q => absurd q (by omega)) (fun _ => ?_)
  refine gOk_lt e1 (y := 24) (b := 24) rfl (fun q => ?_) (fun q => gOk_some ⟨fun z => absurd z (by omega), fun _ => rfl⟩)
  refine gOk_chk (ti_inb e1 (by omega)) (gOk_lee (fun μ4 h4 => ?_))
  have e4 : μ4 12 n 3 = μ 12 n 3 := by rw [h4]; exact w3_o _ _ (by omega)
  rw [ti_cl e1] at h4
  refine gOk_chk (by rw [e4]; exact ti_inb e1 (by omega)) (gOk_lee (fun μ7 h7 => ?_))
  have e7 : μ7 12 n 3 = μ 12 n 3 := by rw [h7, w3_o _ _ (by omega)]; exact e4
  rw [e4, ti_cl e1] at h7
  refine gOk_chk (by rw [e7]; exact ti_inb e1 (by omega)) (gOk_lee (fun μ10 h10 => ?_))
  have e10 : μ10 12 n 3 = μ 12 n 3 := by rw [h10, w3_o _ _ (by omega)]; exact e7
  rw [e7, ti_cl e1] at h10
  refine gOk_lee (fun μ12 h12 => ?_)
  have lo : ∀ j, j ≠ 3 → μ12 12 n j = μ 12 n j := fun j hj => by
    rw [h12, w3_o _ _ (by omega), h10, w3_o _ _ (by omega), h7, w3_o _ _ (by omega), h4, w3_o _ _ (by omega)]
  have a0 : ∀ f j, 16 ≤ f → f ≤ 18 → j ≠ l.length - b → μ12 f n j = μ f n j := fun f j _ _ hj => by
    rw [h12, w3_o _ _ (by omega), h10, w3_o _ _ (by omega), h7, w3_o _ _ (by omega), h4, w3_o _ _ (by omega)]
  have a16 : μ12 16 n (l.length - b) = a1 := by rw [h12, w3_o _ _ (by omega), h10, w3_o _ _ (by omega), h7, w3_o _ _ (by omega), h4, w3_at]
  have a17 : μ12 17 n (l.length - b) = a2 := by rw [h12, w3_o _ _ (by omega), h10, w3_o _ _ (by omega), h7, w3_at]
  have a18 : μ12 18 n (l.length - b) = a3 := by rw [h12, w3_o _ _ (by omega), h10, w3_at]
  have hlen : (l ++ [e]).length = l.length + 1 := by rw [List.length_append]; rfl
  have htk : (l ++ [e]).take b = l.take b := List.take_append_of_le_length r2
  have C : CL μ12 n g (l ++ [e]) b := by
    refine ⟨?_, by omega, by omega, by rw [lo 4 (by omega)]; exact r4, by rw [lo 5 (by omega), sqTT_app r2]; exact r5, by rw [lo 6 (by omega), htk]; exact r6, by rw [lo 7 (by omega), htk]; exact r7, by rw [lo 8 (by omega), htk]; exact r8, fun j f hj => ?_⟩
    · rw [h12, w3_at, e10, ti_add e1 (y := 1) (b := 1) rfl (by omega) (by omega)]; omega
    · rw [List.getElem?_append] at hj
      by_cases q1 : b + j < l.length
      · rw [if_pos q1] at hj
        rw [a0 16 j (by omega) (by omega) (by omega), a0 17 j (by omega) (by omega) (by omega), a0 18 j (by omega) (by omega) (by omega)]
        exact r9 j f hj
      · rw [if_neg q1] at hj
        rcases Nat.eq_zero_or_pos (b + j - l.length) with z | z
        · rw [z] at hj
          have hf : e = f := Option.some.inj hj
          subst hf
          rw [show j = l.length - b by omega, a16, a17, a18]
          exact ⟨h1, h2, h3⟩
        · rw [List.getElem?_eq_none (by show 1 ≤ _; omega)] at hj
          cases hj
  have F : gFr (clP n) μ μ12 := by
    rw [h12, h10, h7, h4]
    exact (gFr.w ⟨rfl, Or.inr (by omega)⟩).tr ((gFr.w ⟨rfl, Or.inr (by omega)⟩).tr ((gFr.w ⟨rfl, Or.inr (by omega)⟩).tr (gFr.w ⟨rfl, Or.inl (by omega)⟩)))
  refine gOk_bp (mX1_findConfiguration_ok C hL (by omega)) (fun μ15 h15 => gOk_some ⟨fun _ => ⟨rfl, F.tr (h15.1.up cfP_cl), h15.2.1, h15.2.2⟩, fun z => absurd z (by omega)⟩)
theorem mX1_cutFrom_ok (h : CL μ n g l b) (hL : LL B l) (hB : l.length < 900000000) {ix : Nat} (h1 : a1.toInt = (ix : Int)) (hix : ix < 900000000) (hb : b < ix) : gOk (mX1_cutFrom nc n a1 μ) (fun p => (l.length < ix → p = (0, μ)) ∧ (ix ≤ l.length → p.1.toInt = (l.length : Int) - ix + 1 ∧ gFr (clP n) μ p.2 ∧ CL p.2 n g (l.take (ix - 1)) b ∧ CF p.2 n g (l.take (ix - 1)) b)) := by
  have h' := h
  obtain ⟨r1, r2, r3, r4, r5, r6, r7, r8, r9⟩ := h'
  unfold mX1_cutFrom
  refine gOk_lee (fun x1 hx => ?_)
  have e1 : x1.toInt = (l.length : Int) - ix + 1 := by
    rw [hx, ti_add (ti_sub (ti_add r4 r1 (by omega) (by omega)) h1 (by omega) (by omega)) (y := 1) (b := 1) rfl (by omega) (by omega)]; omega
  refine gOk_le e1 (y := 0) (b := 0) rfl (fun q => gOk_some ⟨fun _ => rfl, fun z => absurd z (by omega)⟩) (fun q => ?_)
  refine gOk_le e1 r1 (fun q2 => ?_) (fun q2 => absurd q2 (by omega))
  refine gOk_lee (fun μ7 h7 => ?_)
  have lo : ∀ f j, (f ≠ 12 ∨ j ≠ 3) → μ7 f n j = μ f n j := fun f j hj => by rw [h7, w3_o _ _ (by omega)]
  have hlen : (l.take (ix - 1)).length = ix - 1 := by rw [List.length_take]; omega
  have htk : (l.take (ix - 1)).take b = l.take b := by rw [List.take_take, Nat.min_eq_left (by omega)]
  have C : CL μ7 n g (l.take (ix - 1)) b := by
    refine ⟨?_, by omega, by omega, by rw [lo 12 4 (by omega)]; exact r4, by rw [lo 12 5 (by omega), sqTT_take (by omega) (by omega)]; exact r5, by rw [lo 12 6 (by omega), htk]; exact r6, by rw [lo 12 7 (by omega), htk]; exact r7, by rw [lo 12 8 (by omega), htk]; exact r8, fun j f hj => ?_⟩
    · rw [h7, w3_at, ti_sub r1 e1 (by omega) (by omega)]; omega
    · rw [List.getElem?_take] at hj
      by_cases q1 : b + j < ix - 1
      · rw [if_pos q1] at hj
        rw [lo 16 j (by omega), lo 17 j (by omega), lo 18 j (by omega)]
        exact r9 j f hj
      · rw [if_neg q1] at hj; cases hj
  have F : gFr (clP n) μ μ7 := by
    rw [h7]
    exact gFr.w ⟨rfl, Or.inl (by omega)⟩
  refine gOk_bp (mX1_findConfiguration_ok C (hL.take _) (by omega)) (fun μ10 h10 => gOk_some ⟨fun z => absurd z (by omega), fun _ => ⟨e1, F.tr (h10.1.up cfP_cl), h10.2.1, h10.2.2⟩⟩)
theorem mX1_resultAt_ok (h : CL μ n g l b) (hB : l.length < 900000000) {ix : Nat} (h1 : a1.toInt = (ix : Int)) (hb : b ≤ ix) (hl : ix ≤ l.length) : gOk (mX1_resultAt nc n a1 μ) (fun r => r = sqR (l.take ix)) := by
  obtain ⟨r1, r2, r3, r4, r5, r6, r7, r8, r9⟩ := h
  have ed := ti_sub h1 r4 (by omega) (by omega)
  unfold mX1_resultAt
  refine gOk_let (gOk_jon ?_)
  refine gOk_fx2 (fun v (x7 : Int32) (x8 : Int32) => ∃ j, v = ix - b - j ∧ j ≤ ix - b ∧ x8.toInt = (j : Int) ∧ x7 = sqR (l.take (b + j))) ?_ 1000000 (ix - b) _ _ (by omega) ⟨0, rfl, Nat.zero_le _, rfl, r6⟩
  intro rec v x7 x8 hI ih
  obtain ⟨j, hv, j1, j2, j3⟩ := hI
  subst hv
  have fin : j = ix - b → x7 = sqR (l.take ix) := fun z => by rw [j3, show b + j = ix by omega]
  refine gOk_le r1 j2 (fun q => gOk_some (fin (by omega))) (fun q => ?_)
  refine gOk_le (x := 24) (a := 24) rfl j2 (fun q2 => absurd q2 (by omega)) (fun q2 => ?_)
  refine gOk_le ed j2 (fun q3 => gOk_some (fin (by omega))) (fun q3 => ?_)
  have hlt : b + j < l.length := by omega
  have hs := sqR_snoc (l.take (b + j)) l[b + j]
  rw [← List.take_succ_eq_append_getElem hlt] at hs
  have ev := r9 j _ (List.getElem?_eq_getElem hlt)
  have ej : (x8 + 1).toInt = ((j + 1 : Nat) : Int) := by rw [ti_add j2 (y := 1) (b := 1) rfl (by omega) (by omega)]; omega
  refine gOk_chk (ti_inb j2 (by omega)) ?_
  simp only [ti_cl j2]
  refine gOk_eq ev.2.1 (y := 0) (b := 0) rfl (fun z => gOk_chk (ti_inb j2 (by omega)) (gOk_let (ih _ _ (ix - b - (j + 1)) (by omega) ⟨j + 1, rfl, by omega, ej, ?_⟩))) (fun z => ih _ _ (ix - b - (j + 1)) (by omega) ⟨j + 1, rfl, by omega, ej, ?_⟩)
  · rw [show b + (j + 1) = b + j + 1 by omega, hs, if_pos (by omega), ev.2.2, j3]
  · rw [show b + (j + 1) = b + j + 1 by omega, hs, if_neg (by omega), j3]
/-- the cells that dropping reaches -/
def cdP (n : Nat) : Nat → Nat → Nat → Prop := fun f i j => i = n ∧ (f = 12 ∧ j = 3 ∨ 16 ≤ f ∧ f ≤ 18)
theorem cdP_cl {n : Nat} : ∀ f i j, cdP n f i j → clP n f i j := fun _ _ _ h => ⟨h.1, h.2.elim (fun z => Or.inl (by omega)) Or.inr⟩
theorem cp3_o {μ : gM} {f i sp dp m f' i' j : Nat} (h : ¬ (f' = f ∧ i' = i)) : cp3 μ f i f i sp dp m f' i' j = μ f' i' j := by rw [cp3_ne h]
theorem cp3_in {μ : gM} {f i sp m j : Nat} (h : j < m) : cp3 μ f i f i sp 0 m f i j = μ f i (j + sp) := by
  rw [cp3_at]
  unfold va_cpy
  rw [if_pos ⟨Nat.zero_le _, by omega⟩, show sp + (j - 0) = j + sp by omega]
theorem cp3_fr {μ : gM} {f i sp dp m : Nat} {P : Nat → Nat → Nat → Prop} (h : ∀ j, P f i j) : gFr P μ (cp3 μ f i f i sp dp m) := fun f' i' j q => cp3_o (fun z => q (by rw [z.1, z.2]; exact h j))
theorem mX1_dropFirst_ok {s d : Nat} (h1 : (μ 12 n 3).toInt = (s : Int)) (hs : s ≤ 24) (h2 : a1.toInt = (d : Int)) (hd : d ≤ s) : gOk (mX1_dropFirst nc n a1 μ) (fun μ' => (μ' 12 n 3).toInt = ((s - d : Nat) : Int) ∧ (∀ f j, 16 ≤ f → f ≤ 18 → j + d < s → μ' f n j = μ f n (j + d)) ∧ gFr (cdP n) μ μ') := by
  unfold mX1_dropFirst
  refine gOk_lt h2 (y := 0) (b := 0) rfl (fun q => absurd q (by omega)) (fun _ => ?_)
  refine gOk_lt h1 h2 (fun q => absurd q (by omega)) (fun _ => ?_)
  refine gOk_le h1 (y := 24) (b := 24) rfl (fun _ => ?_) (fun q => absurd q (by omega))
  have e0 : ((μ 12 n 3) - a1).toInt = ((s - d : Nat) : Int) := by rw [ti_sub h1 h2 (by omega) (by omega)]; omega
  have p1 : ¬ a1 < 0 := fun z => by rw [Int32.lt_iff_toInt_lt, h2] at z; have : (0 : Int32).toInt = 0 := rfl; omega
  have p2 : ¬ ((μ 12 n 3) - a1) < 0 := fun z => by rw [Int32.lt_iff_toInt_lt, e0] at z; have : (0 : Int32).toInt = 0 := rfl; omega
  have p3 : a1.toNatClampNeg + ((μ 12 n 3) - a1).toNatClampNeg ≤ 24 := by rw [ti_cl h2, ti_cl e0]; omega
  have p4 : 0 + ((μ 12 n 3) - a1).toNatClampNeg ≤ 24 := by rw [ti_cl e0]; omega
  refine gOk_chk p1 (gOk_chk p2 (gOk_chk p3 (gOk_chk p4 (gOk_lee (fun μ8 h8 => ?_)))))
  have e8 : μ8 12 n 3 = μ 12 n 3 := by rw [h8]; exact cp3_o (by omega)
  rw [ti_cl h2, ti_cl e0] at h8
  rw [e8]
  refine gOk_chk p1 (gOk_chk p2 (gOk_chk p3 (gOk_chk p4 (gOk_lee (fun μ14 h14 => ?_)))))
  have e14 : μ14 12 n 3 = μ 12 n 3 := by rw [h14, cp3_o (by omega)]; exact e8
  rw [ti_cl h2, ti_cl e0] at h14
  rw [e14]
  refine gOk_chk p1 (gOk_chk p2 (gOk_chk p3 (gOk_chk p4 (gOk_lee (fun μ20 h20 => ?_)))))
  have e20 : μ20 12 n 3 = μ 12 n 3 := by rw [h20, cp3_o (by omega)]; exact e14
  rw [ti_cl h2, ti_cl e0] at h20
  rw [e20]
  refine gOk_let (gOk_some ⟨by rw [w3_at]; exact e0, fun f j f1 f2 hj => ?_, ?_⟩)
  · rw [w3_o _ _ (by omega), h20]
    rcases Nat.lt_or_ge f 18 with q | q
    · rw [cp3_o (by omega), h14]
      rcases Nat.lt_or_ge f 17 with q2 | q2
      · rw [cp3_o (by omega), h8, show f = 16 by omega, cp3_in (by omega)]
      · rw [show f = 17 by omega, cp3_in (by omega), h8, cp3_o (by omega)]
    · rw [show f = 18 by omega, cp3_in (by omega), h14, cp3_o (by omega), h8, cp3_o (by omega)]
  · rw [h20, h14, h8]
    exact (cp3_fr (fun j => ⟨rfl, Or.inr (by omega)⟩)).tr ((cp3_fr (fun j => ⟨rfl, Or.inr (by omega)⟩)).tr ((cp3_fr (fun j => ⟨rfl, Or.inr (by omega)⟩)).tr (gFr.w ⟨rfl, Or.inl (by omega)⟩)))
end SqCls2
