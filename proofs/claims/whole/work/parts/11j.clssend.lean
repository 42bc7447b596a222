/-! The class: the draft. -/
section SqCld
variable {μ μ' μ1 : gM} {n g b k i nc B t t1 s q : Nat} {l : List sqE} {a1 a2 a3 : Int32} {e : sqE} {m : sqMs} {S S' : sqSt} {N : sqN}
/-- writing into the draft changes nothing of the state -/
theorem RB.draft (h : RB μ q S) (F : gFr (mgP (nwP μ q 40)) μ μ') : RB μ' q S := by
  have o : ∀ f i j, f ≤ 18 → μ' f i j = μ f i j := fun f i j z => F f i j (fun y => by have := y.2; omega)
  have hp : ∀ i, nwP μ' q i = nwP μ q i := fun i => nwP_cg (fun _ => o 10 q i (by omega)) (fun _ => o 9 q 1 (by omega)) (fun _ => o 9 q 2 (by omega))
  refine h.net ?_ (fun f i j z => o f i j (by omega))
  obtain ⟨k1, k2, k3, k4, k5, k6, k7, k8⟩ := h.1
  unfold NW
  rw [o 9 q 3 (by omega), o 9 q 4 (by omega), o 9 q 5 (by omega), o 9 q 6 (by omega), o 9 q 7 (by omega)]
  refine ⟨k1.perm (fun i => i) (fun i _ => hp i) (fun i hi => hi) (fun i j _ _ e => e), k2, k3, k4, k5, k6, k7, fun i m hm => ?_⟩
  have hi := (List.getElem?_eq_some_iff.mp hm).1
  have hne : nwP μ q i ≠ nwP μ q 40 := fun z => by have := k1.2 i 40 (by omega) (by omega) z; omega
  rw [hp i]
  exact (k8 i m hm).cg (fun j _ _ => F 19 _ j (fun y => hne y.1)) (fun f j _ _ _ => F f _ j (fun y => hne y.1))
theorem RB.rows (h : RB μ q S) : nwP μ q 40 < 42 * q + 42 ∧ 42 * q ≤ nwP μ q 40 := ⟨(h.1.1.1 40 (by omega)).2, (h.1.1.1 40 (by omega)).1⟩
/-- the frame of an opened draft -/
def opC (μ : gM) (t kd n i T d ti : Nat) : Prop :=
  (μ 19 t 3).toInt = 0 ∧ (μ 19 t 4).toInt = (kd : Int) ∧ (μ 19 t 5).toInt = (n : Int) ∧ (μ 19 t 6).toInt = (i : Int) ∧ (μ 19 t 7).toInt = (T : Int) ∧ (μ 19 t 8).toInt = (d : Int) ∧ (μ 19 t 9).toInt = (ti : Int) ∧ (μ 19 t 10).toInt = 0 ∧ (μ 19 t 11).toInt = 0 ∧ μ 19 t 12 = 0 ∧ (μ 19 t 13).toInt = 0
theorem mX2_clear_ok (μ : gM) (t : Nat) : gOk (mX2_clear nc t μ) (fun μ' => gFr (mgP t) μ μ' ∧ μ' 19 t 3 = 0 ∧ ∀ j, 10 ≤ j → j ≤ 13 → μ' 19 t j = 0) := by
  unfold mX2_clear
  refine gOk_lee (fun μ1 h1 => gOk_lee (fun μ3 h3 => gOk_lee (fun μ5 h5 => gOk_lee (fun μ7 h7 => gOk_lee (fun μ9 h9 => gOk_lee (fun μ11 h11 => gOk_lee (fun μ13 h13 => gOk_lee (fun μ15 h15 => gOk_some ⟨?_, ?_, fun j j1 j2 => ?_⟩))))))))
  · rw [h15, h13, h11, h9, h7, h5, h3, h1]
    exact (gFr.w ⟨rfl, by omega⟩).tr ((gFr.w ⟨rfl, by omega⟩).tr ((gFr.w ⟨rfl, by omega⟩).tr ((gFr.w ⟨rfl, by omega⟩).tr ((gFr.w ⟨rfl, by omega⟩).tr ((gFr.w ⟨rfl, by omega⟩).tr ((gFr.w ⟨rfl, by omega⟩).tr (gFr.w ⟨rfl, by omega⟩)))))))
  · rw [h15, w3_o _ _ (by omega), h13, w3_o _ _ (by omega), h11, w3_o _ _ (by omega), h9, w3_o _ _ (by omega), h7, w3_o _ _ (by omega), h5, w3_o _ _ (by omega), h3, w3_o _ _ (by omega), h1, w3_at]
  · rw [h15, w3_o _ _ (by omega), h13, w3_o _ _ (by omega), h11, w3_o _ _ (by omega)]
    rcases (show j = 10 ∨ j = 11 ∨ j = 12 ∨ j = 13 by omega) with z | z | z | z
    · rw [z, h9, w3_o _ _ (by omega), h7, w3_o _ _ (by omega), h5, w3_o _ _ (by omega), h3, w3_at]
    · rw [z, h9, w3_o _ _ (by omega), h7, w3_o _ _ (by omega), h5, w3_at]
    · rw [z, h9, w3_o _ _ (by omega), h7, w3_at]
    · rw [z, h9, w3_at]
theorem mX0_open_ok (h : RB μ q S) (hq : q < nc) (hn : n < 5) (hT : zti S + zde S < 2000000000) {kd : Nat} (h1 : a1.toInt = (kd : Int)) (h3 : a3.toInt = (i : Int)) : gOk (mX0_open nc q a1 (5 * q + n) a3 μ) (fun p => p.1 = nwP μ q 40 ∧ gFr (mgP (nwP μ q 40)) μ p.2 ∧ opC p.2 (nwP μ q 40) kd n i (ntm (zno S n)) (zti S + zde S) (zti S)) := by
  have hb := h.2.1 n hn
  have n40 : nwP μ q 40 < 42 * nc := h.1.num hq (by omega)
  unfold mX0_open
  rw [← nwP_40]
  refine gOk_let (gOk_chk n40 (gOk_bp (mX2_clear_ok μ _) (fun μ5 h5 => ?_)))
  generalize nwP μ q 40 = t at *
  obtain ⟨f5, z3, zz⟩ := h5
  refine gOk_lee (fun μ6 h6 => gOk_lee (fun μ8 h8 => gOk_lee (fun μ10 h10 => gOk_lee (fun μ12 h12 => gOk_lee (fun μ14 h14 => gOk_lee (fun μ16 h16 => gOk_some ?_))))))
  have F6 : gFr (mgP t) μ μ6 := f5.tr (by rw [h6]; exact gFr.w ⟨rfl, by omega⟩)
  have F8 : gFr (mgP t) μ μ8 := F6.tr (by rw [h8]; exact gFr.w ⟨rfl, by omega⟩)
  have F10 : gFr (mgP t) μ μ10 := F8.tr (by rw [h10]; exact gFr.w ⟨rfl, by omega⟩)
  have F12 : gFr (mgP t) μ μ12 := F10.tr (by rw [h12]; exact gFr.w ⟨rfl, by omega⟩)
  have F14 : gFr (mgP t) μ μ14 := F12.tr (by rw [h14]; exact gFr.w ⟨rfl, by omega⟩)
  have F16 : gFr (mgP t) μ μ16 := F14.tr (by rw [h16]; exact gFr.w ⟨rfl, by omega⟩)
  rw [F6 11 _ 0 (fun y => by have := y.2; omega)] at h8
  rw [F10 11 _ 7 (fun y => by have := y.2; omega)] at h12
  rw [F12 6 _ 4 (fun y => by have := y.2; omega), F12 9 _ 5 (fun y => by have := y.2; omega)] at h14
  rw [F14 6 _ 4 (fun y => by have := y.2; omega)] at h16
  have up : ∀ j, j = 3 ∨ 10 ≤ j → μ16 19 t j = μ5 19 t j := fun j hj => by rw [h16, w3_o _ _ (by omega), h14, w3_o _ _ (by omega), h12, w3_o _ _ (by omega), h10, w3_o _ _ (by omega), h8, w3_o _ _ (by omega), h6, w3_o _ _ (by omega)]
  suffices hS : opC μ16 t kd n i (ntm (zno S n)) (zti S + zde S) (zti S) from ⟨rfl, F16, hS⟩
  refine ⟨by rw [up 3 (by omega), z3]; rfl, ?_, ?_, ?_, ?_, ?_, ?_, by rw [up 10 (by omega), zz 10 (by omega) (by omega)]; rfl, by rw [up 11 (by omega), zz 11 (by omega) (by omega)]; rfl, by rw [up 12 (by omega), zz 12 (by omega) (by omega)], by rw [up 13 (by omega), zz 13 (by omega) (by omega)]; rfl⟩
  · rw [h16, w3_o _ _ (by omega), h14, w3_o _ _ (by omega), h12, w3_o _ _ (by omega), h10, w3_o _ _ (by omega), h8, w3_o _ _ (by omega), h6, w3_at]; exact h1
  · rw [h16, w3_o _ _ (by omega), h14, w3_o _ _ (by omega), h12, w3_o _ _ (by omega), h10, w3_o _ _ (by omega), h8, w3_at]; exact hb.1.1
  · rw [h16, w3_o _ _ (by omega), h14, w3_o _ _ (by omega), h12, w3_o _ _ (by omega), h10, w3_at]; exact h3
  · rw [h16, w3_o _ _ (by omega), h14, w3_o _ _ (by omega), h12, w3_at]; exact hb.1.2.2.1
  · rw [h16, w3_o _ _ (by omega), h14, w3_at, ti_add h.2.2.2.1 h.1.2.2.2.2.1 (by omega) (by omega)]; omega
  · rw [h16, w3_at]; exact h.2.2.2.1
end SqCld
