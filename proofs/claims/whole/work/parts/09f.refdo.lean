/-! The reference: nodes that change; committing, winning, standing. -/
section SqRef6
variable {μ : gM} {S : sqSt} {B n k i : Nat} {a1 a2 a3 a4 a5 : Int32} {N : sqN} {A A' : Nat → Int32} {m : sqMs}
/-- one node's row changes -/
theorem RA.nd (R : RA A S) (hZ : zIL B S) (hn : n < 5) {N' : sqN} (e : ∀ k, (k < 116 + 100 * n ∨ 116 + 100 * n + 100 ≤ k) → A' k = A k) (hN : RN (rN A' n) (zg S) N') : RA A' (zN S n N') := by
  obtain ⟨g1, g2, g3, g4, g5, g6, g7⟩ := R.1
  refine ⟨⟨?_, ?_, ?_, ?_, fun i hi => ?_, fun k k1 k2 => ?_, fun t ht => ?_⟩, fun v hv => ?_, fun i m hm => ?_⟩
  · rw [e 0 (by omega)]; exact g1
  · rw [e 1 (by omega)]; exact g2
  · rw [e 2 (by omega)]; exact g3
  · rw [e 3 (by omega)]; exact g4
  · rw [e (4 + i) (by omega)]; exact g5 i hi
  · rw [e (9 + k) (by omega)]; exact g6 k k1 k2
  · rw [e (16 + t) (by omega)]; exact g7 t ht
  · show RN (rN A' v) (zg S) (sqU1 (zno S) n N' v)
    by_cases q : v = n
    · rw [q, sqU1_at]; exact hN
    · rw [sqU1_ne q]
      exact (R.2.1 v hv).cg (fun k hk => e _ (by omega))
  · have hm' : (zms S)[i]? = some m := hm
    exact (R.2.2 i m hm').cg (hZ.2.ml hZ (List.mem_of_getElem? hm')) (fun k hk => e _ (by omega))
theorem RA.nd1 (R : RA A S) (hZ : zIL B S) (hn : n < 5) {N' : sqN} {k : Nat} (hk : k < 100) {v : Int32} (hN : RN (upd (rN A n) k v) (zg S) N') : RA (upd A (116 + 100 * n + k) v) (zN S n N') :=
  R.nd hZ hn (fun j hj => upd_ne _ _ (by omega)) (by rw [rN_upd]; exact hN)
theorem RN.ti {r : Nat → Int32} {g : Nat} (h : RN r g N) (x : Int32) : RN (upd r 5 x) g (nTi N x) := by
  refine ⟨RN0.cg (N := N) h.1 (fun k a b => upd_ne _ _ (by omega)), ?_⟩
  obtain ⟨h1, h2, h3, h4⟩ := h.2
  refine ⟨by rw [upd_ne _ _ (by omega)]; exact h1, upd_at _ _ _, fun q => by rw [upd_ne _ _ (by omega)]; exact h3 q, fun q u hu => ?_⟩
  rw [upd_ne _ _ (by omega), upd_ne _ _ (by omega), upd_ne _ _ (by omega)]
  exact h4 q u hu
theorem RN.fo {r : Nat → Int32} {g : Nat} (h : RN r g N) : RN (upd r 1 0) g (nRo N 0) := by
  refine ⟨RN0.cg (N := N) h.1 (fun k a b => upd_ne _ _ (by omega)), by rw [upd_at]; rfl, by rw [upd_ne _ _ (by omega)]; exact h.2.2.1, fun q => (by cases q), fun q => (by cases q)⟩
theorem RN.cm {r : Nat → Int32} {g : Nat} (h : RN r g N) {c : Nat} {x : Int32} (hx : x.toInt = (c : Int)) : RN (upd r 4 x) g (nCm N c) := by
  obtain ⟨h1, h2, h3, h4, h5, h6, h7, h8, h9, h10, h11, h12⟩ := h.1
  refine ⟨⟨?_, ?_, ?_, ?_, ?_, ?_, ?_, ?_, ?_, ?_, h11, fun j e hj => ?_⟩, RN1.cg (N := N) h.2 (fun k a b => upd_ne _ _ (by omega))⟩
  · rw [upd_ne _ _ (by omega)]; exact h1
  · rw [upd_ne _ _ (by omega)]; exact h2
  · rw [upd_ne _ _ (by omega)]; exact h3
  · rw [upd_at]; exact hx
  · rw [upd_ne _ _ (by omega)]; exact h5
  · rw [upd_ne _ _ (by omega)]; exact h6
  · rw [upd_ne _ _ (by omega)]; exact h7
  · rw [upd_ne _ _ (by omega)]; exact h8
  · rw [upd_ne _ _ (by omega)]; exact h9
  · rw [upd_ne _ _ (by omega)]; exact h10
  · rw [upd_ne _ _ (by omega), upd_ne _ _ (by omega), upd_ne _ _ (by omega)]; exact h12 j e hj
theorem RN.ap {r r' : Nat → Int32} {g : Nat} (h : RN r g N) (hb : nbs N ≤ (nlg N).length) (hl : (nlg N).length < nbs N + 24) {e : sqE} {x y z w : Int32} (hx : x.toInt = sqT e) (hy : y.toInt = e.2.1) (hz : z = e.2.2) (hw : w.toInt = ((nlg N).length : Int) + 1 - nbs N) (hr : r' = upd (upd (upd (upd r (28 + 3 * ((nlg N).length - nbs N)) x) (28 + 3 * ((nlg N).length - nbs N) + 1) y) (28 + 3 * ((nlg N).length - nbs N) + 2) z) 12 w) : RN r' g (nLg N (nlg N ++ [e])) := by
  obtain ⟨h1, h2, h3, h4, h5, h6, h7, h8, h9, h10, h11, h12⟩ := h.1
  have hlow : ∀ k, k < 28 → k ≠ 12 → r' k = r k := fun k a b => by
    rw [hr, upd_ne _ _ b, upd_ne _ _ (by omega), upd_ne _ _ (by omega), upd_ne _ _ (by omega)]
  have ht : (nlg N ++ [e]).take (nbs N) = (nlg N).take (nbs N) := List.take_append_of_le_length hb
  have hTT : sqTT (nlg N ++ [e]) (nbs N) = sqTT (nlg N) (nbs N) := (sqTT_A (sqA_app (nlg N) [e]) hb).symm
  have hlen : (nlg N ++ [e]).length = (nlg N).length + 1 := by rw [List.length_append]; rfl
  refine ⟨⟨?_, ?_, ?_, ?_, ?_, ?_, ?_, ?_, ?_, ?_, ?_, fun j f hj => ?_⟩, RN1.cg (N := N) h.2 (fun k a b => hlow k (by omega) (by omega))⟩
  · rw [hlow 0 (by omega) (by omega)]; exact h1
  · rw [hlow 2 (by omega) (by omega)]; exact h2
  · rw [hlow 3 (by omega) (by omega)]; exact h3
  · rw [hlow 4 (by omega) (by omega)]; exact h4
  · rw [hlow 7 (by omega) (by omega)]; exact h5
  · rw [hlow 8 (by omega) (by omega)]; show _ = ((sqTT (nlg N ++ [e]) (nbs N) : Nat) : Int); rw [hTT]; exact h6
  · rw [hlow 9 (by omega) (by omega)]; show _ = sqR ((nlg N ++ [e]).take (nbs N)); rw [ht]; exact h7
  · rw [hlow 10 (by omega) (by omega)]; show _ = ((sqF g ((nlg N ++ [e]).take (nbs N))).1 : Int); rw [ht]; exact h8
  · rw [hlow 11 (by omega) (by omega)]; show _ = ((sqF g ((nlg N ++ [e]).take (nbs N))).2 : Int); rw [ht]; exact h9
  · rw [hr, upd_at, hw]; show _ = ((nlg N ++ [e]).length : Int) - nbs N; rw [hlen]; omega
  · show (nlg N ++ [e]).length ≤ nbs N + 24; omega
  · have hj' : (nlg N ++ [e])[nbs N + j]? = some f := hj
    rcases Nat.lt_or_ge (nbs N + j) (nlg N).length with q | q
    · rw [List.getElem?_append_left q] at hj'
      rw [hr, upd_ne _ _ (by omega), upd_ne _ _ (by omega), upd_ne _ _ (by omega), upd_ne _ _ (by omega), upd_ne _ _ (by omega), upd_ne _ _ (by omega), upd_ne _ _ (by omega), upd_ne _ _ (by omega), upd_ne _ _ (by omega), upd_ne _ _ (by omega), upd_ne _ _ (by omega), upd_ne _ _ (by omega)]
      exact h12 j f hj'
    · have hjl := sq_lt hj'
      rw [hlen] at hjl
      have hje : nbs N + j = (nlg N).length := by omega
      rw [hje, List.getElem?_concat_length] at hj'
      have hfe := Option.some.inj hj'
      subst hfe
      have hjj : j = (nlg N).length - nbs N := by omega
      subst hjj
      refine ⟨?_, ?_, ?_⟩
      · rw [hr, upd_ne _ _ (by omega), upd_ne _ _ (by omega), upd_ne _ _ (by omega), upd_at]; exact hx
      · rw [hr, upd_ne _ _ (by omega), upd_ne _ _ (by omega), upd_at]; exact hy
      · rw [hr, upd_ne _ _ (by omega), upd_at]; exact hz
theorem rN_at (A : Nat → Int32) (n k : Nat) : A (116 + 100 * n + k) = rN A n k := rfl
theorem mX7_add_ok (R : RZ B (μ 1 0) S) (hn : n < 5) (h1 : a1.toInt = (n : Int)) (hl : (nlg (zno S n)).length < nbs (zno S n) + 24) {e : sqE} (h2 : a2.toInt = sqT e) (h3 : a3.toInt = e.2.1) (h4 : a4 = e.2.2) : gOk (mX7_add a1 a2 a3 a4 μ) (fun μ' => gF1 μ μ' ∧ RA (μ' 1 0) (zN S n (nLg (zno S n) (nlg (zno S n) ++ [e])))) := by
  have hb := R.bd hn
  have hR := R.1.2.1 n hn
  have hR' := hR
  obtain ⟨⟨r1, r2, r3, r4, r5, r6, r7, r8, r9, r10, r11, r12⟩, -⟩ := hR'
  have e28 := ti_add (x := 28) (a := 28) rfl (ti_mul (x := 3) (a := 3) rfl r10 (by omega) (by omega)) (by omega) (by omega)
  have x3 : ((28 : Int32) + 3 * rN (μ 1 0) n 12).toInt = ((28 + 3 * ((nlg (zno S n)).length - nbs (zno S n)) : Nat) : Int) := by rw [e28]; omega
  have x31 : ((28 : Int32) + 3 * rN (μ 1 0) n 12 + 1).toInt = ((28 + 3 * ((nlg (zno S n)).length - nbs (zno S n)) + 1 : Nat) : Int) := by rw [ti_add x3 (y := 1) (b := 1) rfl (by omega) (by omega)]; omega
  have x32 : ((28 : Int32) + 3 * rN (μ 1 0) n 12 + 2).toInt = ((28 + 3 * ((nlg (zno S n)).length - nbs (zno S n)) + 2 : Nat) : Int) := by rw [ti_add x3 (y := 2) (b := 2) rfl (by omega) (by omega)]; omega
  unfold mX7_add
  refine gOk_be (mX7_of_ok μ h1 (k := 12) rfl hn (by omega)) (gOk_let ?_)
  refine gOk_be (mX7_set_ok μ h1 x3 hn (by omega)) (gOk_be (mX7_set_ok _ h1 x31 hn (by omega)) (gOk_be (mX7_set_ok _ h1 x32 hn (by omega)) ?_))
  refine gOk_be (mX7_of_ok _ h1 (k := 12) rfl hn (by omega)) (gOk_be (mX7_set_ok _ h1 (k := 12) rfl hn (by omega)) (gOk_some ⟨gF1.w.tr (gF1.w.tr (gF1.w.tr gF1.w)), ?_⟩))
  simp only [w3_10]
  have p12 : ∀ (X : Nat → Int32) (j : Nat) (v : Int32), j ≠ 12 → rN (upd X (116 + 100 * n + j) v) n 12 = rN X n 12 := fun X j v hj => by rw [rN_upd, upd_ne _ _ (Ne.symm hj)]
  rw [p12 _ _ _ (by omega), p12 _ _ _ (by omega), p12 _ _ _ (by omega)]
  refine R.1.nd R.2.1 hn (fun k hk => ?_) ?_
  · rw [upd_ne _ _ (by omega), upd_ne _ _ (by omega), upd_ne _ _ (by omega), upd_ne _ _ (by omega)]
  · rw [rN_upd, rN_upd, rN_upd, rN_upd]
    exact RN.ap hR hb.2.1 hl h2 h3 h4 (by rw [ti_add r10 (y := 1) (b := 1) rfl (by omega) (by omega)]; omega) rfl
theorem mX7_resetTimer_ok (R : RZ B (μ 1 0) S) (hn : n < 5) (h1 : a1.toInt = (n : Int)) : gOk (mX7_resetTimer a1 μ) (fun μ' => gF1 μ μ' ∧ RA (μ' 1 0) (zN S n (nTi (zno S n) (zTim S n (ntm (zno S n)))))) := by
  have hR := R.1.2.1 n hn
  have r2 := hR.1.2.1
  have hs := R.1.1.2.2.1
  unfold mX7_resetTimer
  refine gOk_be (mX7_of_ok μ h1 (k := 2) rfl hn (by omega)) (gOk_lee (fun x hx => gOk_be (mX7_set_ok μ h1 (k := 5) rfl hn (by omega)) (gOk_some ⟨gF1.w, ?_⟩)))
  have ex : 8 + (x &&& 7) = zTim S n (ntm (zno S n)) := by
    unfold zTim
    rw [hx, hs, ti_of r2, ti_of h1]
  rw [w3_10, ex]
  exact R.1.nd1 R.2.1 hn (by omega) (hR.ti _)
end SqRef6
