/-! The class: a message is taken out of the network. -/
section SqClr
variable {μ μ' μ1 : gM} {n g b k i nc B t t1 s q : Nat} {l : List sqE} {a1 a2 a3 : Int32} {e : sqE} {m : sqMs} {S : sqSt}
theorem mX3_remove_ok (h : NW μ q S) (hq : q < nc) (hnc : nc ≤ 2) {w : Nat} (h1 : a1.toInt = (w : Int)) (hm : (zms S)[w]? = some m) : gOk (mX3_remove nc q a1 μ) (fun μ' => gFr (npP q) μ μ' ∧ NW μ' q (zDel S w) ∧ BM μ' (nwP μ' q 41) (zg S) m) := by
  have hw := (List.getElem?_eq_some_iff.mp hm).1
  have hW := h
  obtain ⟨k1, k2, k3, k4, k5, k6, k7, k8⟩ := h
  unfold mX3_remove
  refine gOk_lt h1 (y := 0) (b := 0) rfl (fun z => absurd z (by omega)) (fun _ => gOk_le k2 h1 (fun z => absurd z (by omega)) (fun _ => gOk_le k2 (y := 40) (b := 40) rfl (fun _ => ?_) (fun z => absurd z (by omega))))
  have p1 := ti_inb (n := 40) h1 (by omega)
  have e1 := nwP_lt (μ := μ) (q := q) (i := w) (by omega)
  have nw : nwP μ q w < 42 * nc := hW.num hq (by omega)
  simp only [ti_cl h1]
  rw [← e1]
  refine gOk_chk p1 (gOk_let (gOk_chk nw ?_))
  refine gOk_jq (P := fun μ8 => gFr (fun f i _ => i = q ∧ f = 10) μ μ8 ∧ ∀ i, i < 40 → (μ8 10 q i).toNatClampNeg = nwP μ q (if w ≤ i ∧ i < (zms S).length - 1 then i + 1 else i)) ?_ ?_
  · intro μ8 hc
    obtain ⟨f8, c8⟩ := hc
    have n8 : ∀ j, μ8 9 q j = μ 9 q j := fun j => f8 9 q j (by omega)
    refine gOk_lee (fun μ10 h10 => ?_)
    have e10 : (μ10 9 q 3).toInt = (((zms S).length - 1 : Nat) : Int) := by
      rw [h10, w3_at, n8, ti_sub k2 (y := 1) (b := 1) rfl (by omega) (by omega)]; omega
    have t10 : (μ10 9 q 2).toNatClampNeg = nwP μ q 41 := by rw [h10, w3_o _ _ (by omega), n8]; rfl
    have n41 : nwP μ q 41 < 42 * nc := hW.num hq (by omega)
    rw [t10]
    simp only [ti_cl e10]
    refine gOk_let (gOk_chk n41 (gOk_chk (ti_inb e10 (by omega)) (gOk_lee (fun μ16 h16 => gOk_lee (fun μ18 h18 => gOk_some ?_)))))
    have F : gFr (npP q) μ μ18 := by
      have : gFr (npP q) μ8 μ18 := by
        rw [h18, h16, h10]
        exact (gFr.w ⟨rfl, by omega⟩).tr ((gFr.w ⟨rfl, by omega⟩).tr (gFr.w ⟨rfl, by omega⟩))
      exact (f8.up (fun f i j z => ⟨z.1, Or.inr z.2⟩)).tr this
    have ac : nwP μ18 q ((zms S).length - 1) = nwP μ q 41 := by
      rw [nwP_lt (by omega), h18, w3_o _ _ (by omega), h16, w3_at]
      exact gNI hnc n41
    have a41 : nwP μ18 q 41 = nwP μ q w := by
      rw [nwP_41, h18, w3_at]
      exact gNI hnc nw
    have ao : ∀ i, i ≠ (zms S).length - 1 → i < 41 → nwP μ18 q i = nwP μ q (if w ≤ i ∧ i < (zms S).length - 1 then i + 1 else i) := fun i i1 i2 => by
      by_cases i3 : i < 40
      · rw [nwP_lt i3, h18, w3_o _ _ (by omega), h16, w3_o _ _ (by omega), h10, w3_o _ _ (by omega)]
        exact c8 i i3
      · rw [if_neg (by omega), show i = 40 by omega, nwP_40, nwP_40, h18, w3_o _ _ (by omega), h16, w3_o _ _ (by omega), h10, w3_o _ _ (by omega), n8]
    have o9 : ∀ j, j ≠ 3 → j ≠ 2 → μ18 9 q j = μ 9 q j := fun j j1 j2 => by rw [h18, w3_o _ _ (by omega), h16, w3_o _ _ (by omega), h10, w3_o _ _ (by omega), n8]
    have hlen2 : ((zms S).eraseIdx w).length = (zms S).length - 1 := List.length_eraseIdx_of_lt hw
    refine ⟨F, ⟨k1.perm (fun i => if i = (zms S).length - 1 then 41 else if i = 41 then w else if w ≤ i ∧ i < (zms S).length - 1 then i + 1 else i) (fun i hi => ?_) (fun i hi => ?_) (fun i j hi hj e => ?_), ?_, ?_, fun i j hi hj => ?_, ?_, ?_, ?_, fun i m' hm' => ?_⟩, ?_⟩
    · show nwP μ18 q i = nwP μ q (if i = (zms S).length - 1 then 41 else if i = 41 then w else if w ≤ i ∧ i < (zms S).length - 1 then i + 1 else i)
      by_cases i1 : i = (zms S).length - 1
      · rw [if_pos i1, i1]; exact ac
      · rw [if_neg i1]
        by_cases i2 : i = 41
        · rw [if_pos i2, i2]; exact a41
        · rw [if_neg i2]; exact ao i i1 (by omega)
    · show (if i = (zms S).length - 1 then 41 else if i = 41 then w else if w ≤ i ∧ i < (zms S).length - 1 then i + 1 else i) < 42
      split
      · omega
      · split
        · omega
        · split <;> omega
    · revert e
      show (if i = (zms S).length - 1 then 41 else if i = 41 then w else if w ≤ i ∧ i < (zms S).length - 1 then i + 1 else i) = (if j = (zms S).length - 1 then 41 else if j = 41 then w else if w ≤ j ∧ j < (zms S).length - 1 then j + 1 else j) → i = j
      by_cases x1 : i = (zms S).length - 1
      · rw [if_pos x1]
        by_cases y1 : j = (zms S).length - 1
        · omega
        · rw [if_neg y1]
          by_cases y2 : j = 41
          · rw [if_pos y2]; omega
          · rw [if_neg y2]
            by_cases y3 : w ≤ j ∧ j < (zms S).length - 1
            · rw [if_pos y3]; omega
            · rw [if_neg y3]; omega
      · rw [if_neg x1]
        by_cases x2 : i = 41
        · rw [if_pos x2]
          by_cases y1 : j = (zms S).length - 1
          · rw [if_pos y1]; omega
          · rw [if_neg y1]
            by_cases y2 : j = 41
            · omega
            · rw [if_neg y2]
              by_cases y3 : w ≤ j ∧ j < (zms S).length - 1
              · rw [if_pos y3]; omega
              · rw [if_neg y3]; omega
        · rw [if_neg x2]
          by_cases x3 : w ≤ i ∧ i < (zms S).length - 1
          · rw [if_pos x3]
            by_cases y1 : j = (zms S).length - 1
            · rw [if_pos y1]; omega
            · rw [if_neg y1]
              by_cases y2 : j = 41
              · rw [if_pos y2]; omega
              · rw [if_neg y2]
                by_cases y3 : w ≤ j ∧ j < (zms S).length - 1
                · rw [if_pos y3]; omega
                · rw [if_neg y3]; omega
          · rw [if_neg x3]
            by_cases y1 : j = (zms S).length - 1
            · rw [if_pos y1]; omega
            · rw [if_neg y1]
              by_cases y2 : j = 41
              · rw [if_pos y2]; omega
              · rw [if_neg y2]
                by_cases y3 : w ≤ j ∧ j < (zms S).length - 1
                · rw [if_pos y3]; omega
                · rw [if_neg y3]; omega
    · show (μ18 9 q 3).toInt = (((zms S).eraseIdx w).length : Int)
      rw [hlen2, h18, w3_o _ _ (by omega), h16, w3_o _ _ (by omega)]; exact e10
    · show ((zms S).eraseIdx w).length ≤ 40
      omega
    · rw [o9 4 (by omega) (by omega)]; exact k4 i j hi hj
    · rw [o9 5 (by omega) (by omega)]; exact k5
    · rw [o9 6 (by omega) (by omega)]; exact k6
    · rw [o9 7 (by omega) (by omega)]; exact k7
    · have hm2 : ((zms S).eraseIdx w)[i]? = some m' := hm'
      have hi2 := (List.getElem?_eq_some_iff.mp hm2).1
      rw [hlen2] at hi2
      rw [List.getElem?_eraseIdx] at hm2
      rw [ao i (by omega) (by omega)]
      by_cases i1 : i < w
      · rw [if_pos i1] at hm2
        rw [if_neg (by omega)]
        exact (k8 i m' hm2).np F
      · rw [if_neg i1] at hm2
        rw [if_pos (by omega)]
        exact (k8 (i + 1) m' hm2).np F
    · rw [a41]
      exact (k8 w m hm).np F
  · intro j9 hj9
    refine gOk_fx2 (fun v (x20 : Int32) (μ21 : gM) => ∃ j, v = (zms S).length - 1 - j ∧ w ≤ j ∧ j ≤ (zms S).length - 1 ∧ x20.toInt = (j : Int) ∧ gFr (fun f i _ => i = q ∧ f = 10) μ μ21 ∧ ∀ i, i < 40 → (μ21 10 q i).toNatClampNeg = nwP μ q (if w ≤ i ∧ i < j then i + 1 else i)) ?_ 1000000 ((zms S).length - 1 - w) _ _ (by omega) ⟨w, rfl, Nat.le_refl _, by omega, h1, gFr.rf, fun i hi => by rw [if_neg (by omega), nwP_lt hi]⟩
    intro rec v x20 μ21 hI ih
    obtain ⟨j, hv, j0, j1, j2, j3, j4⟩ := hI
    subst hv
    have n21 : μ21 9 q 3 = μ 9 q 3 := j3 9 q 3 (by omega)
    have ec : ((μ21 9 q 3) - 1).toInt = (((zms S).length - 1 : Nat) : Int) := by rw [n21, ti_sub k2 (y := 1) (b := 1) rfl (by omega) (by omega)]; omega
    refine gOk_le ec j2 (fun z => ?_) (fun z => ?_)
    · have hj : j = (zms S).length - 1 := by omega
      rw [hj] at j4
      exact hj9 _ ⟨j3, j4⟩
    · have ej : (x20 + 1).toInt = ((j + 1 : Nat) : Int) := by rw [ti_add j2 (y := 1) (b := 1) rfl (by omega) (by omega)]; omega
      have g25 : (μ21 10 q (j + 1)).toNatClampNeg = nwP μ q (j + 1) := by rw [j4 (j + 1) (by omega), if_neg (by omega)]
      have n25 : nwP μ q (j + 1) < 42 * nc := hW.num hq (by omega)
      have p20 := ti_inb (n := 40) j2 (by omega)
      have p21 := ti_inb (n := 40) ej (by omega)
      simp only [ti_cl ej, ti_cl j2]
      rw [g25]
      refine gOk_chk p21 (gOk_let (gOk_chk n25 (gOk_chk p20 (gOk_let (ih _ _ ((zms S).length - 1 - (j + 1)) (by omega) ⟨j + 1, rfl, by omega, by omega, ej, j3.tr (gFr.w ⟨rfl, rfl⟩), fun i hi => ?_⟩)))))
      by_cases i1 : i = j
      · subst i1
        rw [w3_at, if_pos (by omega)]
        exact gNI hnc n25
      · rw [w3_o _ _ (by omega), j4 i hi]
        by_cases i2 : w ≤ i ∧ i < j
        · rw [if_pos i2, if_pos (by omega)]
        · rw [if_neg i2, if_neg (by omega)]
end SqClr
