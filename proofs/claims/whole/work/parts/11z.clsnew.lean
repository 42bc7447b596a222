/-! The class: beginning, copying a cluster. -/
/-- a cluster as it is made: its places, and its nodes' numbers -/
def RW (μ : gM) (q : Nat) : Prop := NWq μ q ∧ ∀ n, n < 5 → (μ 11 (5 * q + n) 0).toInt = (n : Int)
section SqClb
variable {μ μ' μ1 : gM} {n g b k i nc B t t1 s q kk : Nat} {l : List sqE} {a1 a2 a3 a4 : Int32} {e : sqE} {m : sqMs} {S S' : sqSt} {N : sqN} {h : sqH}
theorem RB.w (h : RB μ q S) : RW μ q := ⟨h.1.1, fun n hn => (h.2.1 n hn).1.1⟩
theorem NWq.cg (h : NWq μ q) (e9 : ∀ j, j = 1 ∨ j = 2 → μ' 9 q j = μ 9 q j) (e10 : ∀ j, μ' 10 q j = μ 10 q j) : NWq μ' q :=
  h.perm (fun i => i) (fun i _ => nwP_cg (fun _ => e10 i) (fun _ => e9 1 (Or.inl rfl)) (fun _ => e9 2 (Or.inr rfl))) (fun i hi => hi) (fun i j _ _ e => e)
/-- what another cluster does leaves this one as it is -/
theorem RB.fr {q0 : Nat} (h : RB μ q S) (hne : q0 ≠ q) (F : gFr (rbP q0) μ μ') : RB μ' q S := by
  have o1 : ∀ f j, f = 6 ∨ 8 ≤ f ∧ f ≤ 10 → μ' f q j = μ f q j := fun f j hf => F f q j (fun z => by
    rcases z with z | z | z
    · exact hne z.1.symm
    · omega
    · omega)
  have o2 : ∀ f n j, n < 5 → 11 ≤ f → f ≤ 18 → μ' f (5 * q + n) j = μ f (5 * q + n) j := fun f n j hn h1 h2 => F f _ j (fun z => by
    rcases z with z | z | z
    · omega
    · omega
    · omega)
  have o3 : ∀ f t j, 42 * q ≤ t → t < 42 * q + 42 → 19 ≤ f → f ≤ 22 → μ' f t j = μ f t j := fun f t j h1 h2 h3 h4 => F f t j (fun z => by
    rcases z with z | z | z
    · omega
    · omega
    · omega)
  obtain ⟨w, bn, c3, c4, c5, c8⟩ := h
  refine ⟨?_, fun n hn => (bn n hn).same (fun f j h1 h2 => o2 f n j hn h1 h2), by rw [o1 6 3 (by omega)]; exact c3, by rw [o1 6 4 (by omega)]; exact c4, fun c h1 h2 => by rw [o1 6 _ (by omega)]; exact c5 c h1 h2, fun t ht => by rw [o1 8 t (by omega)]; exact c8 t ht⟩
  have hp : ∀ i, nwP μ' q i = nwP μ q i := fun i => nwP_cg (fun _ => o1 10 i (by omega)) (fun _ => o1 9 1 (by omega)) (fun _ => o1 9 2 (by omega))
  obtain ⟨k1, k2, k3, k4, k5, k6, k7, k8⟩ := w
  unfold NW
  rw [o1 9 3 (by omega), o1 9 4 (by omega), o1 9 5 (by omega), o1 9 6 (by omega), o1 9 7 (by omega)]
  refine ⟨k1.perm (fun i => i) (fun i _ => hp i) (fun i hi => hi) (fun i j _ _ e => e), k2, k3, k4, k5, k6, k7, fun i m hm => ?_⟩
  have hi := (List.getElem?_eq_some_iff.mp hm).1
  have hr := k1.1 i (by omega)
  rw [hp i]
  exact (k8 i m hm).cg (fun j _ _ => o3 19 _ j hr.1 hr.2 (by omega) (by omega)) (fun f j h1 h2 _ => o3 f _ j hr.1 hr.2 (by omega) h2)
theorem mX4_clear_ok (h0 : (μ 11 k 0).toInt = (n : Int)) (h1 : a1.toInt = (g : Int)) : gOk (mX4_clear nc k a1 μ) (fun μ' => gFr (bnP k) μ μ' ∧ μ' 11 k 7 = 0 ∧ ∀ x, BN (w3 μ' 11 k 10 x) k n g (nFirst x)) := by
  unfold mX4_clear
  refine gOk_bp (mX1_clear_ok h1) (fun μ2 h2 => ?_)
  obtain ⟨F2, c2, f2⟩ := h2
  refine gOk_lee (fun μ3 h3 => gOk_lee (fun μ5 h5 => gOk_lee (fun μ7 h7 => gOk_lee (fun μ9 h9 => gOk_lee (fun μ11 h11 => gOk_lee (fun μ13 h13 => gOk_some ⟨?_, ?_, fun x => ?_⟩))))))
  · rw [h13, h11, h9, h7, h5, h3]
    exact (F2.up clP_bn).tr ((gFr.w ⟨rfl, by omega⟩).tr ((gFr.w ⟨rfl, by omega⟩).tr ((gFr.w ⟨rfl, by omega⟩).tr ((gFr.w ⟨rfl, by omega⟩).tr ((gFr.w ⟨rfl, by omega⟩).tr (gFr.w ⟨rfl, by omega⟩))))))
  · rw [h13, w3_o _ _ (by omega), h11, w3_o _ _ (by omega), h9, w3_o _ _ (by omega), h7, w3_at]
  · have o : ∀ f j, (f ≠ 11 ∨ j = 0) → w3 μ13 11 k 10 x f k j = μ2 f k j := fun f j hf => by rw [w3_o _ _ (by omega), h13, w3_o _ _ (by omega), h11, w3_o _ _ (by omega), h9, w3_o _ _ (by omega), h7, w3_o _ _ (by omega), h5, w3_o _ _ (by omega), h3, w3_o _ _ (by omega)]
    refine ⟨⟨?_, ?_, ?_, ?_, ?_, c2.cg (fun j _ _ => o 12 j (by omega)) (fun f j _ _ _ => o f j (by omega)), ?_⟩, ?_, ?_, fun r => (by cases r), fun r => (by cases r)⟩
    · rw [o 11 0 (by omega), F2 11 k 0 (fun z => by have := z.2; omega)]; exact h0
    · rw [w3_o _ _ (by omega), h13, w3_o _ _ (by omega), h11, w3_o _ _ (by omega), h9, w3_o _ _ (by omega), h7, w3_o _ _ (by omega), h5, w3_o _ _ (by omega), h3, w3_at]; rfl
    · rw [w3_o _ _ (by omega), h13, w3_o _ _ (by omega), h11, w3_o _ _ (by omega), h9, w3_o _ _ (by omega), h7, w3_at]; rfl
    · rw [w3_o _ _ (by omega), h13, w3_o _ _ (by omega), h11, w3_o _ _ (by omega), h9, w3_at]; exact ti_m1
    · rw [w3_o _ _ (by omega), h13, w3_o _ _ (by omega), h11, w3_at]; rfl
    · unfold CF
      rw [o 12 9 (by omega), o 12 10 (by omega), o 12 11 (by omega)]
      exact f2
    · rw [w3_o _ _ (by omega), h13, w3_o _ _ (by omega), h11, w3_o _ _ (by omega), h9, w3_o _ _ (by omega), h7, w3_o _ _ (by omega), h5, w3_at]; rfl
    · rw [w3_at]; rfl
theorem mX3_clear_ok (h : NWq μ q) (seed : Int32) : gOk (mX3_clear nc q μ) (fun μ' => gFr (npP q) μ μ' ∧ NW μ' q (zBegin g seed)) := by
  unfold mX3_clear
  refine gOk_lee (fun μ1 h1 => gOk_lee (fun μ3 h3 => gOk_lee (fun μ5 h5 => gOk_lee (fun μ7 h7 => gOk_lee (fun μ9 h9 => gOk_some ⟨?_, h.cg (fun j hj => ?_) (fun j => ?_), ?_, Nat.zero_le _, fun i j hi hj => ?_, ?_, ?_, ?_, fun i m hm => (by cases hm)⟩)))))
  · rw [h9, h7, h5, h3, h1]
    exact (gFr.w ⟨rfl, by omega⟩).tr ((gFr.w ⟨rfl, by omega⟩).tr ((gFr.w ⟨rfl, by omega⟩).tr ((gFr.w ⟨rfl, by omega⟩).tr (gFr.w ⟨rfl, by omega⟩))))
  · rw [h9, w3_o _ _ (by omega), h7, w3_o _ _ (by omega), h5, w3_o _ _ (by omega), h3, w3_o _ _ (by omega), h1, w3_o _ _ (by omega)]
  · rw [h9, w3_o _ _ (by omega), h7, w3_o _ _ (by omega), h5, w3_o _ _ (by omega), h3, w3_o _ _ (by omega), h1, w3_o _ _ (by omega)]
  · rw [h9, w3_o _ _ (by omega), h7, w3_o _ _ (by omega), h5, w3_o _ _ (by omega), h3, w3_o _ _ (by omega), h1, w3_at]; rfl
  · rw [h9, w3_o _ _ (by omega), h7, w3_o _ _ (by omega), h5, w3_o _ _ (by omega), h3, w3_at]
    exact BitVec.getLsbD_zero
  · rw [h9, w3_o _ _ (by omega), h7, w3_o _ _ (by omega), h5, w3_at]; rfl
  · rw [h9, w3_o _ _ (by omega), h7, w3_at]; rfl
  · rw [h9, w3_at]; rfl
theorem mX0_begin_x (hw : RW μ q) (h1 : a1.toInt = (g : Int)) {S1 : sqSt} (hS : S1 = zBegin g a2) {X : Nat → Int32} (hX : ∀ n, zno S1 n = nFirst (X n)) (hres : ∀ (μ10 : gM) (n : Nat), n < 5 → μ10 6 q 3 = a2 → μ10 11 (5 * q + n) 7 = 0 → (μ10 11 (5 * q + n) 0).toInt = (n : Int) → gOk (mX0_resetTimer nc q (5 * q + n) μ10) (fun μ12 => μ12 = w3 μ10 11 (5 * q + n) 10 (X n))) : gOk (mX0_begin nc q a1 a2 μ) (fun μ' => gFr (rbP q) μ μ' ∧ RB μ' q S1) := by
  unfold mX0_begin
  refine gOk_lee (fun μ1 h1' => gOk_lee (fun μ3 h3 => gOk_lee (fun μ5 h5 => gOk_lee (fun μ7 h7 => gOk_lee (fun μ9 h9 => gOk_lee (fun μ11 h11 => ?_))))))
  have F11 : gFr (rcP q) μ μ11 := by
    rw [h11, h9, h7, h5, h3, h1']
    exact (gFr.w ⟨rfl, Or.inl rfl⟩).tr ((gFr.w ⟨rfl, Or.inl rfl⟩).tr ((gFr.w ⟨rfl, Or.inl rfl⟩).tr ((gFr.w ⟨rfl, Or.inl rfl⟩).tr ((gFr.w ⟨rfl, Or.inl rfl⟩).tr (gFr.w ⟨rfl, Or.inl rfl⟩)))))
  have s3 : μ11 6 q 3 = a2 := by rw [h11, w3_o _ _ (by omega), h9, w3_o _ _ (by omega), h7, w3_o _ _ (by omega), h5, w3_o _ _ (by omega), h3, w3_o _ _ (by omega), h1', w3_at]
  have s48 : ∀ j, 4 ≤ j → j ≤ 8 → μ11 6 q j = 0 := fun j j1 j2 => by
    rcases (show j = 4 ∨ j = 5 ∨ j = 6 ∨ j = 7 ∨ j = 8 by omega) with z | z | z | z | z
    · rw [z, h11, w3_o _ _ (by omega), h9, w3_o _ _ (by omega), h7, w3_o _ _ (by omega), h5, w3_o _ _ (by omega), h3, w3_at]
    · rw [z, h11, w3_o _ _ (by omega), h9, w3_o _ _ (by omega), h7, w3_o _ _ (by omega), h5, w3_at]
    · rw [z, h11, w3_o _ _ (by omega), h9, w3_o _ _ (by omega), h7, w3_at]
    · rw [z, h11, w3_o _ _ (by omega), h9, w3_at]
    · rw [z, h11, w3_at]
  refine gOk_jq (γ := gM) (fun μ13 => gFr (rcP q) μ μ13 ∧ (∀ j, μ13 6 q j = μ11 6 q j) ∧ ∀ t, t < 100 → μ13 8 q t = -1) (fun μ13 hc => ?_) (fun j14 hj14 => ?_)
  · obtain ⟨F13, g6, g8⟩ := hc
    have w13 : NWq μ13 q := hw.1.cg (fun j _ => F13 9 q j (fun z => by have := z.2; omega)) (fun j => F13 10 q j (fun z => by have := z.2; omega))
    refine gOk_bp (mX3_clear_ok (g := g) w13 a2) (fun μ16 h16 => ?_)
    obtain ⟨F16, W16⟩ := h16
    have i16 : ∀ n, n < 5 → (μ16 11 (5 * q + n) 0).toInt = (n : Int) := fun n hn => by
      rw [F16 11 _ 0 (fun z => by have := z.2; omega), F13 11 _ 0 (fun z => by have := z.2; omega)]
      exact hw.2 n hn
    refine gOk_jq (γ := gM) (fun μ17 => gFr (fun f i j => 5 * q ≤ i ∧ i < 5 * q + 5 ∧ 11 ≤ f ∧ f ≤ 18) μ16 μ17 ∧ ∀ n, n < 5 → BN μ17 (5 * q + n) n g (nFirst (X n))) (fun μ17 hc => gOk_some ?_) (fun j18 hj18 => ?_)
    · obtain ⟨F17, b17⟩ := hc
      refine ⟨(F13.up rcP_rb).tr ((F16.up npP_rb).tr (F17.up (fun f i j z => Or.inr (Or.inl ⟨⟨z.1, z.2.1⟩, z.2.2⟩)))), ?_, fun n hn => ?_, ?_, ?_, fun c h1 h2 => ?_, fun t ht => ?_⟩
      · rw [hS]
        exact W16.cg (fun j => F17 9 q j (by omega)) (fun j => F17 10 q j (by omega)) (fun f i j _ _ => F17 f i j (by omega))
      · rw [hX n, show zg S1 = g by rw [hS]; rfl]; exact b17 n hn
      · rw [F17 6 q 3 (by omega), F16 6 q 3 (fun z => by have := z.2; omega), g6, s3, hS]; rfl
      · rw [F17 6 q 4 (by omega), F16 6 q 4 (fun z => by have := z.2; omega), g6, s48 4 (by omega) (by omega), hS]; rfl
      · rw [F17 6 q _ (by omega), F16 6 q _ (fun z => by have := z.2; omega), g6, s48 _ (by omega) (by omega), hS]; rfl
      · rw [F17 8 q t (by omega), F16 8 q t (fun z => by have := z.2; omega), g8 t ht, hS]; rfl
    · refine gOk_fx2 (fun v (x19 : Int32) (μ20 : gM) => ∃ j : Nat, v = 5 - j ∧ j ≤ 5 ∧ x19.toInt = (j : Int) ∧ gFr (fun f i j => 5 * q ≤ i ∧ i < 5 * q + 5 ∧ 11 ≤ f ∧ f ≤ 18) μ16 μ20 ∧ (∀ n, n < 5 → (μ20 11 (5 * q + n) 0).toInt = (n : Int)) ∧ ∀ n, n < j → BN μ20 (5 * q + n) n g (nFirst (X n))) ?_ 1000000 5 _ _ (by omega) ⟨0, rfl, Nat.zero_le _, rfl, gFr.rf, i16, fun n hn => absurd hn (Nat.not_lt_zero n)⟩
      intro rec v x19 μ20 hI ih
      obtain ⟨j, hv, j1, j2, j3, j4, j5⟩ := hI
      subst hv
      refine gOk_le (x := 5) (a := 5) rfl j2 (fun z => hj18 _ ⟨j3, fun n hn => j5 n (by omega)⟩) (fun z => ?_)
      have hj5 : j < 5 := by omega
      have e1 : (x19 + 1).toInt = ((j + 1 : Nat) : Int) := by rw [ti_add j2 (y := 1) (b := 1) rfl (by omega) (by omega)]; omega
      have p5 := ti_inb (n := 5) j2 hj5
      simp only [ti_cl j2]
      refine gOk_chk p5 (gOk_bp (mX4_clear_ok (j4 j hj5) h1) (fun μ25 h25 => gOk_chk p5 ?_))
      obtain ⟨F25, z25, b25⟩ := h25
      have e6 : μ25 6 q 3 = a2 := by
        rw [F25 6 q 3 (fun z => by have := z.2; omega), j3 6 q 3 (by omega), F16 6 q 3 (fun z => by have := z.2; omega), g6, s3]
      refine gOk_bp (hres μ25 j hj5 e6 z25 (by rw [F25 11 _ 0 (fun z => by have := z.2; omega)]; exact j4 j hj5)) (fun μ28 h28 => ?_)
      have b28 := b25 (X j)
      rw [← h28] at b28
      have F28 : gFr (bnP (5 * q + j)) μ20 μ28 := F25.tr (by rw [h28]; exact gFr.w ⟨rfl, by omega⟩)
      refine ih _ _ (5 - (j + 1)) (by omega) ⟨j + 1, rfl, by omega, e1, j3.tr (F28.up (fun f i j' z => by have := z.1; have := z.2; omega)), fun n hn => ?_, fun n hn => ?_⟩
      · rw [F28 11 _ 0 (fun z => by have := z.2; omega)]; exact j4 n hn
      · by_cases w : n = j
        · subst w; exact b28
        · exact (j5 n (by omega)).same (fun f j' _ _ => F28 f _ j' (fun z => by have := z.1; omega))
  · refine gOk_fx2 (fun v (x29 : Int32) (μ30 : gM) => ∃ j : Nat, v = 100 - j ∧ j ≤ 100 ∧ x29.toInt = (j : Int) ∧ gFr (rcP q) μ μ30 ∧ (∀ j, μ30 6 q j = μ11 6 q j) ∧ ∀ t, t < j → μ30 8 q t = -1) ?_ 1000000 100 _ _ (by omega) ⟨0, rfl, Nat.zero_le _, rfl, F11, fun _ => rfl, fun t ht => absurd ht (Nat.not_lt_zero t)⟩
    intro rec v x29 μ30 hI ih
    obtain ⟨j, hv, j1, j2, j3, j4, j5⟩ := hI
    subst hv
    refine gOk_le (x := 100) (a := 100) rfl j2 (fun z => hj14 _ ⟨j3, j4, fun t ht => j5 t (by omega)⟩) (fun z => ?_)
    have e1 : (x29 + 1).toInt = ((j + 1 : Nat) : Int) := by rw [ti_add j2 (y := 1) (b := 1) rfl (by omega) (by omega)]; omega
    have p := ti_inb (n := 100) j2 (by omega)
    simp only [ti_cl j2]
    refine gOk_chk p (gOk_let (ih _ _ (100 - (j + 1)) (by omega) ⟨j + 1, rfl, by omega, e1, j3.tr (gFr.w ⟨rfl, Or.inr rfl⟩), fun c => by rw [w3_o _ _ (by omega)]; exact j4 c, fun t ht => ?_⟩))
    by_cases w : t = j
    · rw [w, w3_at]
    · rw [w3_o _ _ (by omega)]; exact j5 t (by omega)
theorem mX0_reset_first (seed : Int32) : ∀ (μ10 : gM) (n : Nat), n < 5 → μ10 6 q 3 = seed → μ10 11 (5 * q + n) 7 = 0 → (μ10 11 (5 * q + n) 0).toInt = (n : Int) → gOk (mX0_resetTimer nc q (5 * q + n) μ10) (fun μ12 => μ12 = w3 μ10 11 (5 * q + n) 10 (8 + ((ushr ((seed + 5 * Int32.ofNat 0 + Int32.ofNat n) * (-1640531527)) 20) &&& 7))) := by
  intro μ10 n hn h3 h7 h0
  have e7 : μ10 11 (5 * q + n) 7 = Int32.ofNat 0 := h7
  have e0 := ti_of h0
  unfold mX0_resetTimer
  rw [h3, e7, e0]
  exact gOk_let (gOk_let (gOk_some rfl))
theorem mX0_begin_ok (hw : RW μ q) (h1 : a1.toInt = (g : Int)) : gOk (mX0_begin nc q a1 a2 μ) (fun μ' => gFr (rbP q) μ μ' ∧ RB μ' q (zBegin g a2)) :=
  mX0_begin_x hw h1 rfl (X := fun n => 8 + ((ushr ((a2 + 5 * Int32.ofNat 0 + Int32.ofNat n) * (-1640531527)) 20) &&& 7)) (fun _ => rfl) (mX0_reset_first a2)
end SqClb
