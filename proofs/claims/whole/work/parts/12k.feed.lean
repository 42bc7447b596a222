/-! Letters that are fed; the text's letters. -/
section SqFeed
variable {μ μ' : gM} {β τ : Nat → Int32} {len tl B nc : Nat} {a1 a2 a3 : Int32} {S : sqSt}
theorem mX6_feed_ok (h : BuC μ β len) (hc : vp_nar .char a1 = a1) : gOk (mX6_feed nc a1 μ) (fun q => match q with | .inl p => len = 80 ∧ p.1 = eIS ∧ p.2 = μ | .inr p => len < 80 ∧ p.1.toInt = ((len + 1 : Nat) : Int) ∧ BuC p.2 (upd β len a1) (len + 1) ∧ gFr (fun f i j => i = 0 ∧ (f = 1 ∧ j = 4 ∨ f = 2)) μ p.2) := by
  obtain ⟨b1, b2, b3⟩ := h
  unfold mX6_feed mX5_isFull mX5_add
  refine gOk_bp (P := fun r => r = if len < 80 then 0 else 1) (gOk_lt b1 (y := 80) (b := 80) rfl (fun z => gOk_some (by rw [if_pos (by omega)])) (fun z => gOk_some (by rw [if_neg (by omega)]))) (fun r2 h2 => ?_)
  by_cases z : len < 80
  · rw [if_pos z] at h2
    refine gOk_if (fun _ => ?_) (fun y => absurd h2 y)
    refine gOk_bp (P := fun μ5 => μ5 = w3 (w3 μ 2 0 len a1) 1 0 4 ((μ 1 0 4) + 1)) (gOk_lt b1 (y := 0) (b := 0) rfl (fun y => absurd y (by omega)) (fun _ => gOk_le (x := 80) (a := 80) rfl b1 (fun y => absurd y (by omega)) (fun _ => gOk_chk (ti_inb b1 z) (gOk_chk hc (gOk_let (gOk_let (gOk_some ?_))))))) (fun μ5 h5 => gOk_some ?_)
    · rw [ti_cl b1, w3_o _ _ (by omega)]
    · have e4 : (μ5 1 0 4).toInt = ((len + 1 : Nat) : Int) := by rw [h5, w3_at, ti_add b1 (y := 1) (b := 1) rfl (by omega) (by omega)]; omega
      refine ⟨z, e4, ⟨e4, by omega, fun i hi => ?_⟩, by rw [h5]; exact (gFr.w ⟨rfl, Or.inr rfl⟩).tr (gFr.w ⟨rfl, Or.inl ⟨rfl, rfl⟩⟩)⟩
      show μ5 2 0 i = _
      rw [h5, w3_o _ _ (by omega)]
      by_cases y : i = len
      · subst y; rw [w3_at, upd_at]
      · rw [w3_o _ _ (by omega), upd_ne _ _ y]; exact b3 i (by omega)
  · rw [if_neg z] at h2
    exact gOk_if (fun y => absurd (h2.symm.trans y) (by decide)) (fun _ => gOk_some ⟨by omega, rfl, rfl⟩)
theorem mX7_feed_ok (h : BuR μ β len) (hc : vp_nar .char a1 = a1) : gOk (mX7_feed a1 μ) (fun q => gFr (fun f i j => i = 0 ∧ (f = 0 ∧ (j = 0 ∨ j = 6) ∨ f = 5)) μ q.2 ∧ (len = 80 → (q.2 0 0 0).toInt = 1 ∧ BuR q.2 β len) ∧ (len < 80 → (q.2 0 0 0).toInt = 0 ∧ q.1.toInt = ((len + 1 : Nat) : Int) ∧ BuR q.2 (upd β len a1) (len + 1))) := by
  obtain ⟨b1, b2, b3⟩ := h
  unfold mX7_feed
  refine gOk_guard (fun q => ?_) (fun q => ?_)
  · have hl : len < 80 := Nat.lt_of_le_of_ne b2 (fun z => q (ti_eq b1 (by rw [z]; rfl)))
    have e6 : (w3 μ 0 0 0 0) 0 0 6 = μ 0 0 6 := w3_o _ _ (by omega)
    rw [e6]
    refine gOk_chk (ti_inb b1 hl) (gOk_chk hc (gOk_lee (fun μ11 h11 => gOk_lee (fun μ13 h13 => gOk_some ?_))))
    rw [ti_cl b1] at h11
    have e11 : μ11 0 0 6 = μ 0 0 6 := by rw [h11, w3_o _ _ (by omega)]; exact e6
    rw [e11] at h13
    have e13 : (μ13 0 0 6).toInt = ((len + 1 : Nat) : Int) := by rw [h13, w3_at, ti_add b1 (y := 1) (b := 1) rfl (by omega) (by omega)]; omega
    refine ⟨?_, fun z => by omega, fun _ => ⟨?_, e13, e13, by omega, fun i hi => ?_⟩⟩
    · show gFr _ μ μ13
      rw [h13, h11]
      exact (gFr.w ⟨rfl, by omega⟩).tr ((gFr.w ⟨rfl, by omega⟩).tr (gFr.w ⟨rfl, by omega⟩))
    · show (μ13 0 0 0).toInt = 0
      rw [h13, w3_o _ _ (by omega), h11, w3_o _ _ (by omega), w3_at]; rfl
    · show μ13 5 0 i = _
      rw [h13, w3_o _ _ (by omega), h11]
      by_cases y : i = len
      · subst y; rw [w3_at, upd_at]
      · rw [w3_o _ _ (by omega), w3_o _ _ (by omega), upd_ne _ _ y]; exact b3 i (by omega)
  · have hl : len = 80 := by rw [q] at b1; have : (80 : Int32).toInt = 80 := rfl; omega
    refine gOk_some ⟨gFr.w ⟨rfl, by omega⟩, fun _ => ⟨?_, ?_, b2, fun i hi => ?_⟩, fun z => by omega⟩
    · show (w3 μ 0 0 0 1 0 0 0).toInt = 1
      rw [w3_at]; rfl
    · show (w3 μ 0 0 0 1 0 0 6).toInt = _
      rw [w3_o _ _ (by omega)]; exact b1
    · show w3 μ 0 0 0 1 5 0 i = _
      rw [w3_o _ _ (by omega)]; exact b3 i hi
/-- the reference's text -/
def TxR (μ : gM) (τ : Nat → Int32) (tl : Nat) : Prop := (μ 0 0 13).toInt = (tl : Int) ∧ tl ≤ 700 ∧ ∀ i, i < tl → μ 12 0 i = τ i ∧ vp_nar .char (τ i) = τ i
theorem mX7_text_ok (h : TxR μ τ tl) : gOk (mX7_text a1 μ) (fun q => gFr (fun f i j => f = 0 ∧ i = 0 ∧ j = 0) μ q.2 ∧ (q.2 0 0 0).toInt = (if 0 ≤ a1.toInt ∧ a1.toInt < tl then 0 else 1) ∧ (0 ≤ a1.toInt ∧ a1.toInt < tl → q.1 = τ a1.toInt.toNat)) := by
  obtain ⟨b1, b2, b3⟩ := h
  unfold mX7_text
  refine gOk_bp (mX7_isBetween_ok μ (a := a1.toInt) rfl (b := 0) rfl (ti_sub b1 (y := 1) (b := 1) rfl (by omega) (by omega))) (fun r2 h2 => gOk_guard (fun q => ?_) (fun q => ?_))
  · have hc : 0 ≤ a1.toInt ∧ a1.toInt ≤ (tl : Int) - 1 := Classical.byContradiction fun z => q (h2.2.mpr z)
    have e1 : a1.toInt = ((a1.toInt.toNat : Nat) : Int) := by omega
    obtain ⟨t1, t2⟩ := b3 a1.toInt.toNat (by omega)
    have e12 : w3 μ 0 0 0 0 12 0 a1.toInt.toNat = τ a1.toInt.toNat := by rw [w3_o _ _ (by omega)]; exact t1
    simp only [ti_cl e1]
    rw [e12]
    refine gOk_chk (ti_inb e1 (by omega)) (gOk_chk t2 (gOk_some ⟨gFr.w ⟨rfl, rfl, rfl⟩, ?_, fun _ => rfl⟩))
    show (w3 μ 0 0 0 0 0 0 0).toInt = _
    rw [w3_at, if_pos ⟨hc.1, by omega⟩]; rfl
  · have hc := h2.2.mp q
    refine gOk_some ⟨gFr.w ⟨rfl, rfl, rfl⟩, ?_, fun z => absurd ⟨z.1, by omega⟩ hc⟩
    show (w3 μ 0 0 0 1 0 0 0).toInt = _
    rw [w3_at, if_neg (fun z => hc ⟨z.1, by omega⟩)]; rfl
end SqFeed
