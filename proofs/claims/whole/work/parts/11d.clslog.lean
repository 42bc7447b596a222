/-! The class: a log from another log, from a snapshot; a message's entries. -/
section SqCls4
variable {μ μ' : gM} {n g b k i nc B t : Nat} {l : List sqE} {a1 a2 a3 : Int32} {e : sqE}
theorem cp3_src {μ : gM} {f1 i1 f i m j : Nat} (h : j < m) : cp3 μ f1 i1 f i 0 0 m f1 i1 j = μ f i j := by
  rw [cp3_at]
  unfold va_cpy
  rw [if_pos ⟨Nat.zero_le _, by omega⟩, show 0 + (j - 0) = j by omega]
theorem cp3_p {μ : gM} {f1 i1 f i sp dp m f' i' j : Nat} (h : ¬ (f' = f1 ∧ i' = i1)) : cp3 μ f1 i1 f i sp dp m f' i' j = μ f' i' j := by rw [cp3_ne h]
theorem cp3_fq {μ : gM} {f1 i1 f i sp dp m : Nat} {P : Nat → Nat → Nat → Prop} (h : ∀ j, P f1 i1 j) : gFr P μ (cp3 μ f1 i1 f i sp dp m) := fun f' i' j q => cp3_p (fun z => q (by rw [z.1, z.2]; exact h j))
theorem mX1_copyFrom_ok {n1 : Nat} (hn : n ≠ n1) (h : CL μ n1 g l b) (hL : LL B l) (hB : l.length < 900000000) : gOk (mX1_copyFrom nc n n1 μ) (fun μ' => gFr (clP n) μ μ' ∧ CL μ' n g l b ∧ CF μ' n g l b) := by
  obtain ⟨r1, r2, r3, r4, r5, r6, r7, r8, r9⟩ := h
  unfold mX1_copyFrom
  refine gOk_lee (fun μ1 h1 => gOk_lee (fun μ3 h3 => gOk_lee (fun μ5 h5 => gOk_lee (fun μ7 h7 => gOk_lee (fun μ9 h9 => gOk_lee (fun μ11 h11 => gOk_lee (fun μ13 h13 => gOk_lee (fun μ15 h15 => gOk_lee (fun μ17 h17 => ?_)))))))))
  have s5 : ∀ j, μ5 12 n1 j = μ 12 n1 j := fun j => by rw [h5, cp3_p (by omega), h3, cp3_p (by omega), h1, cp3_p (by omega)]
  have s7 : ∀ j, μ7 12 n1 j = μ 12 n1 j := fun j => by rw [h7, w3_o _ _ (by omega)]; exact s5 j
  have s9 : ∀ j, μ9 12 n1 j = μ 12 n1 j := fun j => by rw [h9, w3_o _ _ (by omega)]; exact s7 j
  have s11 : ∀ j, μ11 12 n1 j = μ 12 n1 j := fun j => by rw [h11, w3_o _ _ (by omega)]; exact s9 j
  have s13 : ∀ j, μ13 12 n1 j = μ 12 n1 j := fun j => by rw [h13, w3_o _ _ (by omega)]; exact s11 j
  have s15 : ∀ j, μ15 12 n1 j = μ 12 n1 j := fun j => by rw [h15, w3_o _ _ (by omega)]; exact s13 j
  rw [s5] at h7
  rw [s7] at h9
  rw [s9] at h11
  rw [s11] at h13
  rw [s13] at h15
  rw [s15] at h17
  have up : ∀ f j, f ≠ 12 → μ17 f n j = μ5 f n j := fun f j hf => by rw [h17, w3_o _ _ (by omega), h15, w3_o _ _ (by omega), h13, w3_o _ _ (by omega), h11, w3_o _ _ (by omega), h9, w3_o _ _ (by omega), h7, w3_o _ _ (by omega)]
  have a16 : ∀ j, j < 24 → μ17 16 n j = μ 16 n1 j := fun j hj => by rw [up 16 j (by omega), h5, cp3_p (by omega), h3, cp3_p (by omega), h1, cp3_src hj]
  have a17 : ∀ j, j < 24 → μ17 17 n j = μ 17 n1 j := fun j hj => by rw [up 17 j (by omega), h5, cp3_p (by omega), h3, cp3_src hj, h1, cp3_p (by omega)]
  have a18 : ∀ j, j < 24 → μ17 18 n j = μ 18 n1 j := fun j hj => by rw [up 18 j (by omega), h5, cp3_src hj, h3, cp3_p (by omega), h1, cp3_p (by omega)]
  have F : gFr (clP n) μ μ17 := by
    rw [h17, h15, h13, h11, h9, h7, h5, h3, h1]
    exact (cp3_fq (fun j => ⟨rfl, Or.inr (by omega)⟩)).tr ((cp3_fq (fun j => ⟨rfl, Or.inr (by omega)⟩)).tr ((cp3_fq (fun j => ⟨rfl, Or.inr (by omega)⟩)).tr ((gFr.w ⟨rfl, Or.inl (by omega)⟩).tr ((gFr.w ⟨rfl, Or.inl (by omega)⟩).tr ((gFr.w ⟨rfl, Or.inl (by omega)⟩).tr ((gFr.w ⟨rfl, Or.inl (by omega)⟩).tr ((gFr.w ⟨rfl, Or.inl (by omega)⟩).tr (gFr.w ⟨rfl, Or.inl (by omega)⟩))))))))
  have C : CL μ17 n g l b := by
    refine ⟨?_, r2, r3, ?_, ?_, ?_, ?_, ?_, fun j e hj => ?_⟩
    · rw [h17, w3_o _ _ (by omega), h15, w3_o _ _ (by omega), h13, w3_o _ _ (by omega), h11, w3_o _ _ (by omega), h9, w3_o _ _ (by omega), h7, w3_at]; exact r1
    · rw [h17, w3_o _ _ (by omega), h15, w3_o _ _ (by omega), h13, w3_o _ _ (by omega), h11, w3_o _ _ (by omega), h9, w3_at]; exact r4
    · rw [h17, w3_o _ _ (by omega), h15, w3_o _ _ (by omega), h13, w3_o _ _ (by omega), h11, w3_at]; exact r5
    · rw [h17, w3_o _ _ (by omega), h15, w3_o _ _ (by omega), h13, w3_at]; exact r6
    · rw [h17, w3_o _ _ (by omega), h15, w3_at]; exact r7
    · rw [h17, w3_at]; exact r8
    · have := sq_lt hj
      rw [a16 j (by omega), a17 j (by omega), a18 j (by omega)]
      exact r9 j e hj
  exact gOk_bp (mX1_findConfiguration_ok C hL (by omega)) (fun μ20 h20 => gOk_some ⟨F.tr (h20.1.up cfP_cl), h20.2.1, h20.2.2⟩)
theorem mX1_install_tail {L p : List sqE} {s d ix tt : Nat} {x : Int32} (h3 : (μ 12 n 3).toInt = (s : Int)) (hs : s ≤ 24) (hx : x.toInt = (d : Int)) (hd : d ≤ s) (hl : ix + (s - d) = L.length) (htk : L.take ix = p) (ha : ∀ (j : Nat) (e : sqE), L[ix + j]? = some e → (μ 16 n (j + d)).toInt = sqT e ∧ (μ 17 n (j + d)).toInt = e.2.1 ∧ μ 18 n (j + d) = e.2.2) (hLL : LL B L) (hB : L.length < 900000000) (m10 : (μ 19 t 10).toInt = (ix : Int)) (m11 : (μ 19 t 11).toInt = (tt : Int)) (m14 : μ 19 t 14 = sqR p) (m15 : (μ 19 t 15).toInt = ((sqF g p).1 : Int)) (m16 : (μ 19 t 16).toInt = ((sqF g p).2 : Int)) (htt : sqTT p ix = tt) :
    gOk (gBp (mX1_dropFirst nc n x μ) fun μ10 =>
      gLet (α := gM) (w3 μ10 12 n 4 (μ10 19 t 10)) fun μ11 =>
      gLet (α := gM) (w3 μ11 12 n 5 (μ11 19 t 11)) fun μ13 =>
      gLet (α := gM) (w3 μ13 12 n 6 (μ13 19 t 14)) fun μ15 =>
      gLet (α := gM) (w3 μ15 12 n 7 (μ15 19 t 15)) fun μ17 =>
      gLet (α := gM) (w3 μ17 12 n 8 (μ17 19 t 16)) fun μ19 =>
      gBp (mX1_findConfiguration nc n μ19) fun μ22 =>
      some μ22) (fun μ' => gFr (clP n) μ μ' ∧ CL μ' n g L ix ∧ CF μ' n g L ix) := by
  refine gOk_bp (mX1_dropFirst_ok h3 hs hx hd) (fun μ10 hd10 => ?_)
  obtain ⟨d1, d2, d3⟩ := hd10
  refine gOk_lee (fun μ11 h11 => gOk_lee (fun μ13 h13 => gOk_lee (fun μ15 h15 => gOk_lee (fun μ17 h17 => gOk_lee (fun μ19 h19 => ?_)))))
  have s10 : ∀ j, μ10 19 t j = μ 19 t j := fun j => d3 19 t j (fun z => by have := z.2; omega)
  have s11 : ∀ j, μ11 19 t j = μ 19 t j := fun j => by rw [h11, w3_o _ _ (by omega)]; exact s10 j
  have s13 : ∀ j, μ13 19 t j = μ 19 t j := fun j => by rw [h13, w3_o _ _ (by omega)]; exact s11 j
  have s15 : ∀ j, μ15 19 t j = μ 19 t j := fun j => by rw [h15, w3_o _ _ (by omega)]; exact s13 j
  have s17 : ∀ j, μ17 19 t j = μ 19 t j := fun j => by rw [h17, w3_o _ _ (by omega)]; exact s15 j
  rw [s10] at h11
  rw [s11] at h13
  rw [s13] at h15
  rw [s15] at h17
  rw [s17] at h19
  have up : ∀ f j, (f ≠ 12 ∨ j = 3) → μ19 f n j = μ10 f n j := fun f j hf => by rw [h19, w3_o _ _ (by omega), h17, w3_o _ _ (by omega), h15, w3_o _ _ (by omega), h13, w3_o _ _ (by omega), h11, w3_o _ _ (by omega)]
  have F : gFr (clP n) μ10 μ19 := by
    rw [h19, h17, h15, h13, h11]
    exact (gFr.w ⟨rfl, Or.inl (by omega)⟩).tr ((gFr.w ⟨rfl, Or.inl (by omega)⟩).tr ((gFr.w ⟨rfl, Or.inl (by omega)⟩).tr ((gFr.w ⟨rfl, Or.inl (by omega)⟩).tr (gFr.w ⟨rfl, Or.inl (by omega)⟩))))
  have C : CL μ19 n g L ix := by
    refine ⟨?_, by omega, by omega, ?_, ?_, ?_, ?_, ?_, fun j e hj => ?_⟩
    · rw [up 12 3 (by omega), d1]; omega
    · rw [h19, w3_o _ _ (by omega), h17, w3_o _ _ (by omega), h15, w3_o _ _ (by omega), h13, w3_o _ _ (by omega), h11, w3_at]; exact m10
    · rw [h19, w3_o _ _ (by omega), h17, w3_o _ _ (by omega), h15, w3_o _ _ (by omega), h13, w3_at, ← sqTT_take (Nat.le_refl ix) (by omega), htk, htt]; exact m11
    · rw [h19, w3_o _ _ (by omega), h17, w3_o _ _ (by omega), h15, w3_at, htk]; exact m14
    · rw [h19, w3_o _ _ (by omega), h17, w3_at, htk]; exact m15
    · rw [h19, w3_at, htk]; exact m16
    · have := sq_lt hj
      rw [up 16 j (by omega), up 17 j (by omega), up 18 j (by omega), d2 16 j (by omega) (by omega) (by omega), d2 17 j (by omega) (by omega) (by omega), d2 18 j (by omega) (by omega) (by omega)]
      exact ha j e hj
  exact gOk_bp (mX1_findConfiguration_ok C hLL (by omega)) (fun μ22 h22 => gOk_some ⟨(d3.up cdP_cl).tr (F.tr (h22.1.up cfP_cl)), h22.2.1, h22.2.2⟩)
theorem mX1_install_ok (h : CL μ n g l b) (hL : LL B l) (hB : l.length < 900000000) {p : List sqE} {ix tt : Nat} (hp : p.length = ix) (hix : ix < 900000000) (hb : b < ix) (hLp : LL B p) (m10 : (μ 19 t 10).toInt = (ix : Int)) (m11 : (μ 19 t 11).toInt = (tt : Int)) (m14 : μ 19 t 14 = sqR p) (m15 : (μ 19 t 15).toInt = ((sqF g p).1 : Int)) (m16 : (μ 19 t 16).toInt = ((sqF g p).2 : Int)) (htt : sqTT p ix = tt) (hk : ix ≤ l.length → sqTT l ix = tt → l.take ix = p) : gOk (mX1_install nc n t μ) (fun μ' => gFr (clP n) μ μ' ∧ CL μ' n g (if ix ≤ l.length ∧ sqTT l ix = tt then l else p) ix ∧ CF μ' n g (if ix ≤ l.length ∧ sqTT l ix = tt then l else p) ix) := by
  have h' := h
  obtain ⟨r1, r2, r3, r4, r5, r6, r7, r8, r9⟩ := h'
  have e3 : (μ 12 n 3).toInt = ((l.length - b : Nat) : Int) := by rw [r1]; omega
  have ek : ((μ 19 t 10) - (μ 12 n 4)).toInt = ((ix - b : Nat) : Int) := by rw [ti_sub m10 r4 (by omega) (by omega)]; omega
  generalize hLL : (if ix ≤ l.length ∧ sqTT l ix = tt then l else p) = L
  have drop : ¬ (ix ≤ l.length ∧ sqTT l ix = tt) → ∀ x, x = μ 12 n 3 → gOk (gBp (mX1_dropFirst nc n x μ) fun μ10 =>
      gLet (α := gM) (w3 μ10 12 n 4 (μ10 19 t 10)) fun μ11 =>
      gLet (α := gM) (w3 μ11 12 n 5 (μ11 19 t 11)) fun μ13 =>
      gLet (α := gM) (w3 μ13 12 n 6 (μ13 19 t 14)) fun μ15 =>
      gLet (α := gM) (w3 μ15 12 n 7 (μ15 19 t 15)) fun μ17 =>
      gLet (α := gM) (w3 μ17 12 n 8 (μ17 19 t 16)) fun μ19 =>
      gBp (mX1_findConfiguration nc n μ19) fun μ22 =>
      some μ22) (fun μ' => gFr (clP n) μ μ' ∧ CL μ' n g L ix ∧ CF μ' n g L ix) := fun q x hx => by
    rw [if_neg q] at hLL
    subst hLL
    refine mX1_install_tail e3 (by omega) (d := l.length - b) (by rw [hx]; exact e3) (by omega) (by omega) (List.take_of_length_le (by omega)) (fun j e hj => ?_) hLp (by omega) m10 m11 m14 m15 m16 htt
    have := sq_lt hj
    omega
  unfold mX1_install
  refine gOk_bp (mX1_has_ok h (by omega) m10) (fun r2' h2 => gOk_jon (gOk_jon (gOk_if (fun q => ?_) (fun q => ?_))))
  · have q2 : ¬ ix ≤ l.length := fun z => by rw [if_pos ⟨by omega, by omega⟩] at h2; exact absurd (h2.symm.trans q) (by decide)
    exact gOk_lee (fun x5 h5 => drop (fun z => q2 z.1) x5 (h5.trans (if_pos rfl)))
  · have q2 : ix ≤ l.length := by
      refine Nat.le_of_not_lt (fun z => q ?_)
      rw [if_neg (fun w => by omega)] at h2
      exact h2
    refine gOk_bp (mX1_termAt_ok h (by omega) m10 (by omega) q2) (fun r27 h27 => gOk_lee (fun x28 h28 => gOk_lee (fun x32 h32 => ?_)))
    by_cases q3 : sqTT l ix = tt
    · have z1 : r27 = μ 19 t 11 := Int32.toInt_inj.mp (by rw [h27, m11, q3])
      rw [if_pos z1] at h28
      rw [h28, if_neg (by decide)] at h32
      rw [if_pos ⟨q2, q3⟩] at hLL
      subst hLL
      refine mX1_install_tail e3 (by omega) (d := ix - b) (by rw [h32]; exact ek) (by omega) (by omega) (hk q2 q3) (fun j e hj => ?_) hL hB m10 m11 m14 m15 m16 htt
      exact r9 (j + (ix - b)) e (by rw [show b + (j + (ix - b)) = ix + j by omega]; exact hj)
    · have z1 : ¬ r27 = μ 19 t 11 := fun z => q3 (by rw [z, m11] at h27; omega)
      rw [if_neg z1] at h28
      rw [h28, if_pos rfl] at h32
      exact drop (fun z => q3 z.2) x32 h32
/-- the cells of a message that a snapshot reaches -/
def csP (t : Nat) : Nat → Nat → Nat → Prop := fun f i j => f = 19 ∧ i = t ∧ (j = 10 ∨ j = 11 ∨ 14 ≤ j ∧ j ≤ 16)
theorem mX1_copySnapshot_ok (h : CL μ n g l b) : gOk (mX1_copySnapshot nc n t μ) (fun μ' => gFr (csP t) μ μ' ∧ (μ' 19 t 10).toInt = (b : Int) ∧ (μ' 19 t 11).toInt = (sqTT l b : Int) ∧ μ' 19 t 14 = sqR (l.take b) ∧ (μ' 19 t 15).toInt = ((sqF g (l.take b)).1 : Int) ∧ (μ' 19 t 16).toInt = ((sqF g (l.take b)).2 : Int)) := by
  obtain ⟨r1, r2, r3, r4, r5, r6, r7, r8, r9⟩ := h
  unfold mX1_copySnapshot
  refine gOk_lee (fun μ1 h1 => gOk_lee (fun μ3 h3 => gOk_lee (fun μ5 h5 => gOk_lee (fun μ7 h7 => gOk_lee (fun μ9 h9 => gOk_some ?_)))))
  have s1 : ∀ j, μ1 12 n j = μ 12 n j := fun j => by rw [h1, w3_o _ _ (by omega)]
  have s3 : ∀ j, μ3 12 n j = μ 12 n j := fun j => by rw [h3, w3_o _ _ (by omega)]; exact s1 j
  have s5 : ∀ j, μ5 12 n j = μ 12 n j := fun j => by rw [h5, w3_o _ _ (by omega)]; exact s3 j
  have s7 : ∀ j, μ7 12 n j = μ 12 n j := fun j => by rw [h7, w3_o _ _ (by omega)]; exact s5 j
  rw [s1] at h3
  rw [s3] at h5
  rw [s5] at h7
  rw [s7] at h9
  refine ⟨?_, ?_, ?_, ?_, ?_, ?_⟩
  · rw [h9, h7, h5, h3, h1]
    exact (gFr.w ⟨rfl, rfl, by omega⟩).tr ((gFr.w ⟨rfl, rfl, by omega⟩).tr ((gFr.w ⟨rfl, rfl, by omega⟩).tr ((gFr.w ⟨rfl, rfl, by omega⟩).tr (gFr.w ⟨rfl, rfl, by omega⟩))))
  · rw [h9, w3_o _ _ (by omega), h7, w3_o _ _ (by omega), h5, w3_o _ _ (by omega), h3, w3_o _ _ (by omega), h1, w3_at]; exact r4
  · rw [h9, w3_o _ _ (by omega), h7, w3_o _ _ (by omega), h5, w3_o _ _ (by omega), h3, w3_at]; exact r5
  · rw [h9, w3_o _ _ (by omega), h7, w3_o _ _ (by omega), h5, w3_at]; exact r6
  · rw [h9, w3_o _ _ (by omega), h7, w3_at]; exact r7
  · rw [h9, w3_at]; exact r8
end SqCls4
