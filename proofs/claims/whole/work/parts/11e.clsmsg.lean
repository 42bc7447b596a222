/-! The class: a message in its cells. -/
/-- the entries of a message -/
def ME (μ : gM) (t : Nat) (es : List sqE) : Prop := (μ 19 t 3).toInt = (es.length : Int) ∧ es.length ≤ 4 ∧ ∀ (j : Nat) (e : sqE), es[j]? = some e → (μ 20 t j).toInt = sqT e ∧ (μ 21 t j).toInt = e.2.1 ∧ μ 22 t j = e.2.2
/-- a message -/
def BM (μ : gM) (t g : Nat) (m : sqMs) : Prop :=
  (μ 19 t 4).toInt = (mki m : Int) ∧ (μ 19 t 5).toInt = (mse m : Int) ∧ (μ 19 t 6).toInt = (mre m : Int) ∧ (μ 19 t 7).toInt = (mtm m : Int) ∧ (μ 19 t 8).toInt = (mdu m : Int) ∧ (μ 19 t 9).toInt = (mto m : Int) ∧ (μ 19 t 10).toInt = (mix m : Int) ∧ (μ 19 t 12 = 0 ∨ μ 19 t 12 = 1) ∧
  (mki m = 0 → (μ 19 t 11).toInt = (mfl m : Int)) ∧ (mki m = 1 ∨ mki m = 3 → (μ 19 t 12).toInt = (mfl m : Int)) ∧
  (mki m = 2 → (μ 19 t 11).toInt = (mbf m : Int) ∧ (μ 19 t 13).toInt = (mcm m : Int) ∧ (μ 19 t 3).toInt = (mfl m : Int) ∧ ME μ t (mes m)) ∧
  (mki m = 4 → (μ 19 t 11).toInt = (mfl m : Int) ∧ μ 19 t 14 = sqR (mes m) ∧ (μ 19 t 15).toInt = ((sqF g (mes m)).1 : Int) ∧ (μ 19 t 16).toInt = ((sqF g (mes m)).2 : Int))
/-- the cells of a message -/
def mgP (t : Nat) : Nat → Nat → Nat → Prop := fun f i j => i = t ∧ (f = 19 ∧ 3 ≤ j ∨ 20 ≤ f ∧ f ≤ 22)
/-- the cells of a message's entries -/
def ceP (t : Nat) : Nat → Nat → Nat → Prop := fun f i j => i = t ∧ (f = 19 ∧ j = 3 ∨ 20 ≤ f ∧ f ≤ 22)
theorem ceP_mg {t : Nat} : ∀ f i j, ceP t f i j → mgP t f i j := fun _ _ _ h => ⟨h.1, h.2.elim (fun z => Or.inl (by omega)) Or.inr⟩
theorem csP_mg {t : Nat} : ∀ f i j, csP t f i j → mgP t f i j := fun _ _ _ h => ⟨h.2.1, Or.inl ⟨h.1, by have := h.2.2; omega⟩⟩
section SqClm
variable {μ μ' μ1 : gM} {n g b k i nc B t t1 s : Nat} {l : List sqE} {a1 a2 a3 : Int32} {e : sqE} {m : sqMs}
theorem BM.cg (h : BM μ t g m) (e1 : ∀ j, 3 ≤ j → j ≤ 16 → μ' 19 t1 j = μ 19 t j) (e2 : ∀ f j, 20 ≤ f → f ≤ 22 → j < 4 → μ' f t1 j = μ f t j) : BM μ' t1 g m := by
  obtain ⟨h4, h5, h6, h7, h8, h9, h10, h12, c0, c1, c2, c4⟩ := h
  unfold BM
  rw [e1 4 (by omega) (by omega), e1 5 (by omega) (by omega), e1 6 (by omega) (by omega), e1 7 (by omega) (by omega), e1 8 (by omega) (by omega), e1 9 (by omega) (by omega), e1 10 (by omega) (by omega), e1 11 (by omega) (by omega), e1 12 (by omega) (by omega), e1 13 (by omega) (by omega), e1 14 (by omega) (by omega), e1 15 (by omega) (by omega), e1 16 (by omega) (by omega), e1 3 (by omega) (by omega)]
  refine ⟨h4, h5, h6, h7, h8, h9, h10, h12, c0, c1, fun q => ?_, c4⟩
  obtain ⟨d1, d2, d3, d4, d5, d6⟩ := c2 q
  refine ⟨d1, d2, d3, by rw [e1 3 (by omega) (by omega)]; exact d4, d5, fun j f hj => ?_⟩
  have := sq_lt hj
  rw [e2 20 j (by omega) (by omega) (by omega), e2 21 j (by omega) (by omega) (by omega), e2 22 j (by omega) (by omega) (by omega)]
  exact d6 j f hj
theorem mX2_detail_ok (h : BM μ t g m) (hk : mki m ≤ 4) : gOk (mX2_detail nc t μ) (fun r => mki m ≠ 2 → r.toInt = (mfl m : Int)) := by
  obtain ⟨h4, h5, h6, h7, h8, h9, h10, h12, c0, c1, c2, c4⟩ := h
  have gr : mki m = 1 ∨ mki m = 3 → gOk (if (μ 19 t 12) = 0 then some (0 : Int32) else some 1) (fun r => mki m ≠ 2 → r.toInt = (mfl m : Int)) := fun q => by
    have := c1 q
    rcases h12 with z | z
    · rw [if_pos z]; exact gOk_some (fun _ => by rw [← this, z])
    · rw [if_neg (by rw [z]; decide)]; exact gOk_some (fun _ => by rw [← this, z])
  unfold mX2_detail
  refine gOk_eq h4 (y := 1) (b := 1) rfl (fun q => gr (by omega)) (fun q => gOk_eq h4 (y := 2) (b := 2) rfl (fun q2 => gOk_some (fun z => absurd q2 (by omega))) (fun q2 => gOk_eq h4 (y := 3) (b := 3) rfl (fun q3 => gr (by omega)) (fun q3 => gOk_some (fun _ => ?_))))
  rcases (show mki m = 0 ∨ mki m = 4 by omega) with z | z
  · exact c0 z
  · exact (c4 z).1
def cyI (t t1 s : Nat) (μ μ1 : gM) : Prop := (∀ j, μ1 19 t1 j = μ 19 t1 j) ∧ (∀ j, 3 ≤ j → j < s → μ1 19 t j = μ 19 t1 j) ∧ (∀ f j, f ≠ 19 → μ1 f t j = μ f t j) ∧ gFr (mgP t) μ μ1
theorem cyI.st (ht : t ≠ t1) (hs : 3 ≤ s) (h : cyI t t1 s μ μ1) : cyI t t1 (s + 1) μ (w3 μ1 19 t s (μ1 19 t1 s)) := by
  refine ⟨fun j => by rw [w3_o _ _ (by omega)]; exact h.1 j, fun j j1 j2 => ?_, fun f j hf => by rw [w3_o _ _ (by omega)]; exact h.2.2.1 f j hf, h.2.2.2.tr (gFr.w ⟨rfl, Or.inl ⟨rfl, hs⟩⟩)⟩
  rcases Nat.lt_or_ge j s with q | q
  · rw [w3_o _ _ (by omega)]; exact h.2.1 j j1 q
  · rw [show j = s by omega, w3_at]; exact h.1 s
theorem mX2_copyFrom_ok (ht : t ≠ t1) (h : BM μ t1 g m) : gOk (mX2_copyFrom nc t t1 μ) (fun μ' => gFr (mgP t) μ μ' ∧ BM μ' t g m) := by
  unfold mX2_copyFrom
  refine gOk_lee (fun μ1 h1 => gOk_lee (fun μ3 h3 => gOk_lee (fun μ5 h5 => ?_)))
  have F5 : gFr (mgP t) μ μ5 := by
    rw [h5, h3, h1]
    exact (cp3_fq (fun j => ⟨rfl, Or.inr (by omega)⟩)).tr ((cp3_fq (fun j => ⟨rfl, Or.inr (by omega)⟩)).tr (cp3_fq (fun j => ⟨rfl, Or.inr (by omega)⟩)))
  have s5 : ∀ j, μ5 19 t1 j = μ 19 t1 j := fun j => F5 19 t1 j (fun z => ht z.1.symm)
  have a5 : ∀ f j, 20 ≤ f → f ≤ 22 → j < 4 → μ5 f t j = μ f t1 j := fun f j f1 f2 hj => by
    rcases (show f = 20 ∨ f = 21 ∨ f = 22 by omega) with z | z | z
    · rw [z, h5, cp3_p (by omega), h3, cp3_p (by omega), h1, cp3_src hj]
    · rw [z, h5, cp3_p (by omega), h3, cp3_src hj, h1, cp3_p (by omega)]
    · rw [z, h5, cp3_src hj, h3, cp3_p (by omega), h1, cp3_p (by omega)]
  have I5 : cyI t t1 3 μ5 μ5 := ⟨fun _ => rfl, fun j j1 j2 => absurd j1 (by omega), fun _ _ _ => rfl, gFr.rf⟩
  refine gOk_lee (fun μ7 h7 => ?_)
  have I7 : cyI t t1 4 μ5 μ7 := by rw [h7]; exact I5.st ht (by omega)
  refine gOk_lee (fun μ9 h9 => ?_)
  have I9 : cyI t t1 5 μ5 μ9 := by rw [h9]; exact I7.st ht (by omega)
  refine gOk_lee (fun μ11 h11 => ?_)
  have I11 : cyI t t1 6 μ5 μ11 := by rw [h11]; exact I9.st ht (by omega)
  refine gOk_lee (fun μ13 h13 => ?_)
  have I13 : cyI t t1 7 μ5 μ13 := by rw [h13]; exact I11.st ht (by omega)
  refine gOk_lee (fun μ15 h15 => ?_)
  have I15 : cyI t t1 8 μ5 μ15 := by rw [h15]; exact I13.st ht (by omega)
  refine gOk_lee (fun μ17 h17 => ?_)
  have I17 : cyI t t1 9 μ5 μ17 := by rw [h17]; exact I15.st ht (by omega)
  refine gOk_lee (fun μ19 h19 => ?_)
  have I19 : cyI t t1 10 μ5 μ19 := by rw [h19]; exact I17.st ht (by omega)
  refine gOk_lee (fun μ21 h21 => ?_)
  have I21 : cyI t t1 11 μ5 μ21 := by rw [h21]; exact I19.st ht (by omega)
  refine gOk_lee (fun μ23 h23 => ?_)
  have I23 : cyI t t1 12 μ5 μ23 := by rw [h23]; exact I21.st ht (by omega)
  refine gOk_chk (by rw [I23.1, s5]; exact h.2.2.2.2.2.2.2.1) (gOk_lee (fun μ26 h26 => ?_))
  have I26 : cyI t t1 13 μ5 μ26 := by rw [h26]; exact I23.st ht (by omega)
  refine gOk_lee (fun μ28 h28 => ?_)
  have I28 : cyI t t1 14 μ5 μ28 := by rw [h28]; exact I26.st ht (by omega)
  refine gOk_lee (fun μ30 h30 => ?_)
  have I30 : cyI t t1 15 μ5 μ30 := by rw [h30]; exact I28.st ht (by omega)
  refine gOk_lee (fun μ32 h32 => ?_)
  have I32 : cyI t t1 16 μ5 μ32 := by rw [h32]; exact I30.st ht (by omega)
  refine gOk_lee (fun μ34 h34 => ?_)
  have I34 : cyI t t1 17 μ5 μ34 := by rw [h34]; exact I32.st ht (by omega)
  refine gOk_some ⟨F5.tr I34.2.2.2, h.cg (fun j j1 j2 => by rw [I34.2.1 j j1 (by omega)]; exact s5 j) (fun f j f1 f2 hj => by rw [I34.2.2.1 f j (by omega)]; exact a5 f j f1 f2 hj)⟩
theorem mX1_copyEntries_ok (h : CL μ n g l b) (hB : l.length < 900000000) {ix : Nat} (h1 : a1.toInt = (ix : Int)) (hb : b < ix) (hix : ix ≤ l.length + 1) : gOk (mX1_copyEntries nc n a1 t μ) (fun μ' => gFr (ceP t) μ μ' ∧ ME μ' t ((l.drop (ix - 1)).take 4)) := by
  obtain ⟨r1, r2, r3, r4, r5, r6, r7, r8, r9⟩ := h
  unfold mX1_copyEntries
  refine gOk_lee (fun x1 hx => gOk_lee (fun μ5 h5 => gOk_jon ?_))
  have e1 : x1.toInt = ((ix - 1 - b : Nat) : Int) := by
    rw [hx, ti_sub (ti_sub h1 r4 (by omega) (by omega)) (y := 1) (b := 1) rfl (by omega) (by omega)]; omega
  have len : ((l.drop (ix - 1)).take 4).length = min 4 (l.length - (ix - 1)) := by rw [List.length_take, List.length_drop]
  have F5 : gFr (ceP t) μ μ5 := by rw [h5]; exact gFr.w ⟨rfl, Or.inl ⟨rfl, rfl⟩⟩
  refine gOk_fx2 (fun v (x9 : Int32) (μ10 : gM) => ∃ j, v = 4 - j ∧ j ≤ 4 ∧ j ≤ l.length - (ix - 1) ∧ x9.toInt = (j : Int) ∧ gFr (ceP t) μ μ10 ∧ (μ10 19 t 3).toInt = (j : Int) ∧ ∀ (k : Nat) (e : sqE), k < j → l[ix - 1 + k]? = some e → (μ10 20 t k).toInt = sqT e ∧ (μ10 21 t k).toInt = e.2.1 ∧ μ10 22 t k = e.2.2) ?_ 1000000 4 _ _ (by omega) ⟨0, rfl, Nat.zero_le _, Nat.zero_le _, rfl, F5, by rw [h5, w3_at]; rfl, fun k e hk => absurd hk (by omega)⟩
  intro rec v x9 μ10 hI ih
  obtain ⟨j, hv, j1, j2, j3, j4, j5, j6⟩ := hI
  subst hv
  have fin : j = min 4 (l.length - (ix - 1)) → gFr (ceP t) μ μ10 ∧ ME μ10 t ((l.drop (ix - 1)).take 4) := fun q => by
    refine ⟨j4, by rw [j5, len, q], by omega, fun k e hk => ?_⟩
    have hlt := sq_lt hk
    rw [List.getElem?_take, if_pos (by omega), List.getElem?_drop] at hk
    exact j6 k e (by omega) hk
  have c3 : μ10 12 n 3 = μ 12 n 3 := j4 12 n 3 (fun z => by have := z.2; omega)
  refine gOk_le (x := 4) (a := 4) rfl j3 (fun q => gOk_some (fin (by omega))) (fun q => ?_)
  refine gOk_lee (fun x13 h13 => ?_)
  have e13 : x13.toInt = ((ix - 1 - b + j : Nat) : Int) := by rw [h13, ti_add e1 j3 (by omega) (by omega)]; omega
  refine gOk_lt e13 (y := 0) (b := 0) rfl (fun q2 => absurd q2 (by omega)) (fun _ => ?_)
  rw [c3]
  refine gOk_le r1 e13 (fun q2 => gOk_some (fin (by omega))) (fun q2 => ?_)
  refine gOk_lt e13 (y := 24) (b := 24) rfl (fun q3 => ?_) (fun q3 => absurd q3 (by omega))
  have p13 := ti_inb (n := 24) e13 (by omega)
  have p9 := ti_inb (n := 4) j3 (by omega)
  simp only [ti_cl e13, ti_cl j3]
  refine gOk_chk p13 (gOk_chk p9 (gOk_lee (fun μ22 h22 => gOk_chk p13 (gOk_chk p9 (gOk_lee (fun μ26 h26 => gOk_chk p13 (gOk_chk p9 (gOk_lee (fun μ30 h30 => gOk_lee (fun μ32 h32 => ?_)))))))))) 
  have F : gFr (ceP t) μ10 μ32 := by
    rw [h32, h30, h26, h22]
    exact (gFr.w ⟨rfl, Or.inr (by omega)⟩).tr ((gFr.w ⟨rfl, Or.inr (by omega)⟩).tr ((gFr.w ⟨rfl, Or.inr (by omega)⟩).tr (gFr.w ⟨rfl, Or.inl (by omega)⟩)))
  have ej : (x9 + 1).toInt = ((j + 1 : Nat) : Int) := by rw [ti_add j3 (y := 1) (b := 1) rfl (by omega) (by omega)]; omega
  have g17 : μ22 17 n (ix - 1 - b + j) = μ 17 n (ix - 1 - b + j) := by rw [h22, w3_o _ _ (by omega)]; exact j4 _ _ _ (fun z => by have := z.2; omega)
  have g16 : μ10 16 n (ix - 1 - b + j) = μ 16 n (ix - 1 - b + j) := j4 _ _ _ (fun z => by have := z.2; omega)
  have g18 : μ26 18 n (ix - 1 - b + j) = μ 18 n (ix - 1 - b + j) := by rw [h26, w3_o _ _ (by omega), h22, w3_o _ _ (by omega)]; exact j4 _ _ _ (fun z => by have := z.2; omega)
  rw [g16] at h22
  rw [g17] at h26
  rw [g18] at h30
  refine ih _ _ (4 - (j + 1)) (by omega) ⟨j + 1, rfl, by omega, by omega, ej, j4.tr F, by rw [h32, w3_at]; exact ej, fun k e hk he => ?_⟩
  rcases Nat.lt_or_ge k j with q4 | q4
  · rw [h32, w3_o _ _ (by omega), w3_o _ _ (by omega), w3_o _ _ (by omega), h30, w3_o _ _ (by omega), w3_o _ _ (by omega), w3_o _ _ (by omega), h26, w3_o _ _ (by omega), w3_o _ _ (by omega), w3_o _ _ (by omega), h22, w3_o _ _ (by omega), w3_o _ _ (by omega), w3_o _ _ (by omega)]
    exact j6 k e q4 he
  · have hkj : k = j := by omega
    subst hkj
    have := r9 (ix - 1 - b + k) e (by rw [show b + (ix - 1 - b + k) = ix - 1 + k by omega]; exact he)
    rw [h32, w3_o _ _ (by omega), w3_o _ _ (by omega), w3_o _ _ (by omega), h30, w3_o _ _ (by omega), w3_o _ _ (by omega), w3_at, h26, w3_o _ _ (by omega), w3_at, h22, w3_at]
    exact this
end SqClm
