/-! The reference's calls: start, save, restore, feed, text. -/
def zaStart (S : sqSt) (g : Int) (seed : Int32) : sqRs := if 1 ≤ g ∧ g ≤ 31 then (0, (sqPc g.toNat : Int), zBegin g.toNat seed) else (1, 0, S)
section SqApi7
variable {μ : gM} {S : sqSt} {B n k i : Nat} {a1 a2 a3 a4 a5 : Int32} {N : sqN} {A A' : Nat → Int32} {m : sqMs} {h : sqH}
theorem zI.begin {g : Nat} (hg : 0 < g ∧ g < 32) (seed : Int32) : ∃ h, zI h (zBegin g seed) := by
  refine ⟨(g, fun _ => none, fun _ => [], fun _ => [], fun _ _ => false, fun _ _ => none, fun _ _ => [], fun _ _ => 0), rfl, ⟨?_, ?_, ?_, ?_, ?_, ?_, hg.1, hg.2⟩, ?_, fun m hm => (by cases hm)⟩
  · intro T q; exact absurd rfl q
  · intro T c q; cases q
  · intro T v c q; cases q
  · intro T q; exact absurd rfl q
  · intro T c
    exact ⟨fun j e hj => (by cases hj), fun j e hj => (by cases hj), fun q => (by cases q)⟩
  · intro T v
    exact ⟨Nat.le_refl _, fun q => absurd q (Nat.lt_irrefl _)⟩
  · intro v hv
    refine ⟨⟨fun j e hj => (by cases hj), fun j e hj => (by cases hj)⟩, fun T i k1 k2 => ?_, ⟨fun T q => absurd q (Nat.lt_irrefl _), fun T _ => rfl, rfl, fun T q => (by cases q)⟩, ⟨Nat.le_refl _, Nat.le_refl _, Nat.zero_le _, Or.inl rfl⟩, fun q => (by cases q), fun q => (by cases q)⟩
    exact absurd (Nat.lt_of_lt_of_le k1 k2) (Nat.lt_irrefl _)
theorem zIL.begin {g : Nat} (hg : 0 < g ∧ g < 32) (seed : Int32) : zIL B (zBegin g seed) := by
  refine ⟨zI.begin hg seed, Nat.zero_le _, ⟨Nat.le_refl _, by show 1 ≤ 5; decide⟩, hg, fun n _ => ⟨Nat.zero_le _, Nat.zero_le _, fun e he => (by cases he), Nat.zero_le _, fun q => absurd rfl q, fun q => (by cases q), fun q => (by cases q)⟩, fun m hm => (by cases hm), Nat.zero_le _⟩
theorem zBegin_ti (g n : Nat) (seed : Int32) : zno (zBegin g seed) n = nFirst (zTim (zBegin g seed) n 0) := rfl
theorem RN.first {r : Nat → Int32} {g : Nat} {x : Int32} (h0 : (r 0).toInt = 1) (h3 : (r 3).toInt = -1) (h5 : r 5 = x) (h11 : (r 11).toInt = (g : Int)) (hz : ∀ k, k < 28 → k ≠ 0 → k ≠ 3 → k ≠ 5 → k ≠ 11 → r k = 0) : RN r g (nFirst x) := by
  have z : ∀ k, k < 28 → k ≠ 0 → k ≠ 3 → k ≠ 5 → k ≠ 11 → (r k).toInt = 0 := fun k a b c d e => by rw [hz k a b c d e]; rfl
  refine ⟨⟨h0, z 2 (by omega) (by omega) (by omega) (by omega) (by omega), h3, z 4 (by omega) (by omega) (by omega) (by omega) (by omega), z 7 (by omega) (by omega) (by omega) (by omega) (by omega), z 8 (by omega) (by omega) (by omega) (by omega) (by omega), hz 9 (by omega) (by omega) (by omega) (by omega) (by omega), z 10 (by omega) (by omega) (by omega) (by omega) (by omega), h11, z 12 (by omega) (by omega) (by omega) (by omega) (by omega), Nat.zero_le _, fun j e hj => (by cases hj)⟩, z 1 (by omega) (by omega) (by omega) (by omega) (by omega), h5, fun q => (by cases q), fun q => (by cases q)⟩
theorem mX7_begin_ok {g : Nat} (hg : 0 < g ∧ g < 32) (h1 : a1.toInt = (g : Int)) : gOk (mX7_begin a1 a2 μ) (fun μ' => gF1 μ μ' ∧ RA (μ' 1 0) (zBegin g a2)) := by
  unfold mX7_begin
  refine gOk_jq (γ := gM) (fun μ1 => gF1 μ μ1 ∧ ∀ k, k < 1616 → μ1 1 0 k = 0) (fun μ1 h1' => ?_) (fun j2 hj2 => ?_)
  · obtain ⟨F1, Z1⟩ := h1'
    refine gOk_let (gOk_let ?_)
    refine gOk_jq (γ := gM) (fun μ7 => gF1 μ μ7 ∧ μ7 1 0 1 = 1 ∧ μ7 1 0 2 = a2 ∧ (∀ t, t < 100 → μ7 1 0 (16 + t) = -1) ∧ ∀ k, k < 1616 → k ≠ 1 → k ≠ 2 → (k < 16 ∨ 116 ≤ k) → μ7 1 0 k = 0) (fun μ7 h7 => ?_) (fun j8 hj8 => ?_)
    · obtain ⟨F7, p1, p2, p3, p4⟩ := h7
      refine gOk_jon (gOk_fx2 (fun v (x11 : Int32) (μ12 : gM) => ∃ j, v = 5 - j ∧ j ≤ 5 ∧ x11.toInt = (j : Int) ∧ gF1 μ μ12 ∧ (∀ k, (k < 116 ∨ 116 + 100 * j ≤ k) → μ12 1 0 k = μ7 1 0 k) ∧ ∀ n, n < j → RN (rN (μ12 1 0) n) g (nFirst (zTim (zBegin g a2) n 0))) ?_ 1000000 5 _ _ (by omega) ⟨0, rfl, by omega, rfl, F7, fun _ _ => rfl, fun n hn => absurd hn (Nat.not_lt_zero n)⟩)
      intro rec v x11 μ12 hI ih
      obtain ⟨j, hv, j1, j2, j3, j4, j5⟩ := hI
      subst hv
      refine gOk_le (x := 5) (a := 5) rfl j2 (fun q => gOk_some ⟨j3, ?_⟩) (fun q => ?_)
      · have hj : j = 5 := by omega
        subst hj
        refine ⟨⟨?_, ?_, ?_, ?_, fun i hi => ?_, fun k k1 k2 => ?_, fun t ht => ?_⟩, fun n hn => j5 n hn, fun i m hm => (by cases hm)⟩
        · rw [j4 0 (by omega), p4 0 (by omega) (by omega) (by omega) (by omega)]; rfl
        · rw [j4 1 (by omega), p1]; rfl
        · rw [j4 2 (by omega), p2]; rfl
        · rw [j4 3 (by omega), p4 3 (by omega) (by omega) (by omega) (by omega)]; rfl
        · rw [j4 (4 + i) (by omega), p4 (4 + i) (by omega) (by omega) (by omega) (by omega)]; rfl
        · rw [j4 (9 + k) (by omega), p4 (9 + k) (by omega) (by omega) (by omega) (by omega)]; rfl
        · rw [j4 (16 + t) (by omega), p3 t ht]; rfl
      · have hj5 : j < 5 := by omega
        have e1 : (x11 + 1).toInt = ((j + 1 : Nat) : Int) := by rw [ti_add j2 (y := 1) (b := 1) rfl (by omega) (by omega)]; omega
        refine gOk_be (mX7_set_ok _ j2 (k := 0) rfl hj5 (by omega)) (gOk_be (mX7_set_ok _ j2 (k := 3) rfl hj5 (by omega)) (gOk_be (mX7_set_ok _ j2 (k := 11) rfl hj5 (by omega)) ?_))
        have zrow : ∀ k, k < 100 → rN (μ12 1 0) j k = 0 := fun k hk => by
          show μ12 1 0 (116 + 100 * j + k) = 0
          rw [j4 _ (by omega), p4 _ (by omega) (by omega) (by omega) (by omega)]
        refine gOk_bp (mX7_reset_raw (S := zBegin g a2) hj5 j2 (T := 0) _ ?_ ?_) (fun μ22 h22 => ?_)
        · simp only [w3_10]
          rw [upd_ne _ _ (by omega), upd_ne _ _ (by omega), upd_ne _ _ (by omega), j4 2 (by omega)]; exact p2
        · simp only [w3_10]
          rw [rN_upd, rN_upd, rN_upd, upd_ne _ _ (by omega), upd_ne _ _ (by omega), upd_ne _ _ (by omega), zrow 2 (by omega)]; rfl
        · refine ih _ _ (5 - (j + 1)) (by omega) ⟨j + 1, rfl, by omega, e1, ?_, fun k hk => ?_, fun n hn => ?_⟩
          · rw [h22]; exact j3.tr (gF1.w.tr (gF1.w.tr (gF1.w.tr gF1.w)))
          · rw [h22]; simp only [w3_10]
            rw [upd_ne _ _ (by omega), upd_ne _ _ (by omega), upd_ne _ _ (by omega), upd_ne _ _ (by omega)]
            exact j4 k (by omega)
          · by_cases z : n = j
            · subst z
              rw [h22]; simp only [w3_10]
              rw [rN_upd, rN_upd, rN_upd, rN_upd]
              refine RN.first ?_ ?_ ?_ ?_ (fun k k1 k2 k3 k4 k5 => ?_)
              · rw [upd_ne _ _ (by omega), upd_ne _ _ (by omega), upd_ne _ _ (by omega), upd_at]; rfl
              · rw [upd_ne _ _ (by omega), upd_ne _ _ (by omega), upd_at]; exact ti_m1
              · rw [upd_at]
              · rw [upd_ne _ _ (by omega), upd_at]; exact h1
              · rw [upd_ne _ _ k4, upd_ne _ _ k5, upd_ne _ _ k3, upd_ne _ _ k2]; exact zrow k (by omega)
            · refine (j5 n (by omega)).cg (fun k hk => ?_)
              rw [h22]; simp only [w3_10]
              show upd (upd (upd (upd (μ12 1 0) (116 + 100 * j + 0) 1) (116 + 100 * j + 3) (-1)) (116 + 100 * j + 11) a1) (116 + 100 * j + 5) (zTim (zBegin g a2) j 0) (116 + 100 * n + k) = _
              rw [upd_ne _ _ (by omega), upd_ne _ _ (by omega), upd_ne _ _ (by omega), upd_ne _ _ (by omega)]
              rfl
    · refine gOk_fx2 (fun v (x23 : Int32) (μ24 : gM) => ∃ j, v = 100 - j ∧ j ≤ 100 ∧ x23.toInt = (j : Int) ∧ gF1 μ μ24 ∧ (∀ k, (k < 16 ∨ 116 ≤ k) → μ24 1 0 k = upd (upd (μ1 1 0) 1 1) 2 a2 k) ∧ ∀ t, t < j → μ24 1 0 (16 + t) = -1) ?_ 1000000 100 _ _ (by omega) ⟨0, rfl, by omega, rfl, F1.tr (gF1.w.tr gF1.w), fun k _ => by simp only [w3_10], fun t ht => absurd ht (Nat.not_lt_zero t)⟩
      intro rec v x23 μ24 hI ih
      obtain ⟨j, hv, j1, j2, j3, j4, j5⟩ := hI
      subst hv
      refine gOk_le (x := 100) (a := 100) rfl j2 (fun q => hj8 _ ⟨j3, ?_, ?_, fun t ht => j5 t (by omega), fun k k0 k1 k2 k3 => ?_⟩) (fun q => ?_)
      · rw [j4 1 (by omega), upd_ne _ _ (by omega), upd_at]
      · rw [j4 2 (by omega), upd_at]
      · rw [j4 k k3, upd_ne _ _ k2, upd_ne _ _ k1]; exact Z1 k k0
      · have e16 : (16 + x23).toInt = ((16 + j : Nat) : Int) := by rw [ti_add (x := 16) (a := 16) rfl j2 (by omega) (by omega)]; omega
        refine gOk_chk (ti_inb e16 (by omega)) (gOk_let (ih _ _ (100 - (j + 1)) (by omega) ⟨j + 1, rfl, by omega, by rw [ti_add j2 (y := 1) (b := 1) rfl (by omega) (by omega)]; omega, j3.tr gF1.w, fun k hk => ?_, fun t ht => ?_⟩))
        · rw [ti_cl e16, w3_10, upd_ne _ _ (by omega)]; exact j4 k hk
        · rw [ti_cl e16, w3_10]
          by_cases z : t = j
          · rw [z, upd_at]
          · rw [upd_ne _ _ (by omega)]; exact j5 t (by omega)
  · refine gOk_fx2 (fun v (x30 : Int32) (μ31 : gM) => ∃ j, v = 1616 - j ∧ j ≤ 1616 ∧ x30.toInt = (j : Int) ∧ gF1 μ μ31 ∧ ∀ k, k < j → μ31 1 0 k = 0) ?_ 1000000 1616 _ _ (by omega) ⟨0, rfl, by omega, rfl, gF1.rf, fun k hk => absurd hk (Nat.not_lt_zero k)⟩
    intro rec v x30 μ31 hI ih
    obtain ⟨j, hv, j1, j2, j3, j4⟩ := hI
    subst hv
    refine gOk_le (x := 1616) (a := 1616) rfl j2 (fun q => hj2 _ ⟨j3, fun k hk => j4 k (by omega)⟩) (fun q => ?_)
    refine gOk_chk (ti_inb j2 (by omega)) (gOk_let (ih _ _ (1616 - (j + 1)) (by omega) ⟨j + 1, rfl, by omega, by rw [ti_add j2 (y := 1) (b := 1) rfl (by omega) (by omega)]; omega, j3.tr gF1.w, fun k hk => ?_⟩))
    rw [ti_cl j2, w3_10]
    by_cases z : k = j
    · rw [z, upd_at]
    · rw [upd_ne _ _ z]; exact j4 k (by omega)
theorem mX7_start_ok (R : RZ B (μ 1 0) S) : gOk (mX7_start a1 a2 μ) (rPost μ B (zaStart S a1.toInt a2)) := by
  unfold mX7_start zaStart
  refine gOk_bp (mX7_isGroup_ok μ a1) (fun r2 h2 => gOk_guard (fun q => ?_) (fun q => ?_))
  · have hc := Classical.byContradiction fun z => q (h2.2.mpr z)
    rw [if_pos hc]
    obtain ⟨g, hg, hge⟩ : ∃ g : Nat, a1.toInt = (g : Int) ∧ a1.toInt.toNat = g := ⟨a1.toInt.toNat, by omega, rfl⟩
    rw [hge]
    refine gOk_bp (mX7_begin_ok (g := g) ⟨by omega, by omega⟩ hg) (fun μ12 h12 => gOk_bp (mX7_countBits_ok μ12 hg (by omega)) (fun r14 h14 => gOk_some (rPost_yes h12.1.two h14 ⟨h12.2, zIL.begin ⟨by omega, by omega⟩ a2, R.2.2⟩)))
  · rw [if_neg (h2.2.mp q)]
    exact gOk_some (rPost_no R rfl (by omega) 0)
theorem RA.cg (R : RA A S) (hZ : zIL B S) (e : ∀ k, k < 1616 → A' k = A k) : RA A' S := by
  have hc := hZ.2.2.2.2.2.2
  obtain ⟨m1, m2⟩ := R.mv hZ (A' := A') (fun k a b => e k (by omega)) (fun k a b => e k (by omega))
  obtain ⟨g1, g2, g3, g4, g5, g6, g7⟩ := R.1
  refine ⟨⟨?_, ?_, ?_, ?_, fun i hi => ?_, fun k k1 k2 => ?_, fun t ht => ?_⟩, m1, m2⟩
  · rw [e 0 (by omega)]; exact g1
  · rw [e 1 (by omega)]; exact g2
  · rw [e 2 (by omega)]; exact g3
  · rw [e 3 (by omega)]; exact g4
  · rw [e (4 + i) (by omega)]; exact g5 i hi
  · rw [e (9 + k) (by omega)]; exact g6 k k1 k2
  · rw [e (16 + t) (by omega)]; exact g7 t ht
theorem mX7_copy_ok (μ : gM) {f1 f2 : Nat} (hf : f1 ≠ f2) : gOk (mX7_copy f1 f2 μ) (fun μ' => (∀ k, k < 1616 → μ' f2 0 k = μ f1 0 k) ∧ ∀ f i, ¬ (f = f2 ∧ i = 0) → μ' f i = μ f i) := by
  unfold mX7_copy
  refine gOk_jon (gOk_fx2 (fun v (x3 : Int32) (μ4 : gM) => ∃ j, v = 1616 - j ∧ j ≤ 1616 ∧ x3.toInt = (j : Int) ∧ (∀ f i, ¬ (f = f2 ∧ i = 0) → μ4 f i = μ f i) ∧ ∀ k, k < j → μ4 f2 0 k = μ f1 0 k) ?_ 1000000 1616 _ _ (by omega) ⟨0, rfl, by omega, rfl, fun _ _ _ => rfl, fun k hk => absurd hk (Nat.not_lt_zero k)⟩)
  intro rec v x3 μ4 hI ih
  obtain ⟨j, hv, j1, j2, j3, j4⟩ := hI
  subst hv
  refine gOk_le (x := 1616) (a := 1616) rfl j2 (fun q => gOk_some ⟨fun k hk => j4 k (by omega), j3⟩) (fun q => ?_)
  refine gOk_chk (ti_inb j2 (by omega)) (gOk_chk (ti_inb j2 (by omega)) (gOk_let (ih _ _ (1616 - (j + 1)) (by omega) ⟨j + 1, rfl, by omega, by rw [ti_add j2 (y := 1) (b := 1) rfl (by omega) (by omega)]; omega, fun f i hfi => ?_, fun k hk => ?_⟩)))
  · rw [w3_ne hfi]; exact j3 f i hfi
  · rw [ti_cl j2, w3_row, j3 f1 0 (fun z => hf z.1)]
    by_cases z : k = j
    · rw [z, upd_at]
    · rw [upd_ne _ _ z]; exact j4 k (by omega)
theorem mX7_save_ok (R : RZ B (μ 1 0) S) : gOk (mX7_save μ) (fun q => q.1.toInt = zti S ∧ q.2 0 0 0 = 0 ∧ q.2 0 0 3 = 1 ∧ RZ B (q.2 1 0) S ∧ RZ B (q.2 2 0) S ∧ ∀ f i j, ¬ (f = 0 ∧ i = 0 ∧ (j = 0 ∨ j = 3)) → ¬ (f = 2 ∧ i = 0) → q.2 f i j = μ f i j) := by
  unfold mX7_save
  refine gOk_let (gOk_let (gOk_bp (mX7_copy_ok _ (f1 := 1) (f2 := 2) (by decide)) (fun μ6 h6 => gOk_some ?_)))
  obtain ⟨c1, c2⟩ := h6
  have e1 : w3 (w3 μ 0 0 0 0) 0 0 3 1 1 0 = μ 1 0 := by rw [w3_ne (by omega), w3_ne (by omega)]
  have e6 : μ6 1 0 = μ 1 0 := (c2 1 0 (by omega)).trans e1
  have e0 : μ6 0 0 = w3 (w3 μ 0 0 0 0) 0 0 3 1 0 0 := c2 0 0 (by omega)
  refine ⟨?_, ?_, ?_, ?_, ⟨R.1.cg R.2.1 (fun k hk => ?_), R.2⟩, fun f i j h1 h2 => ?_⟩
  · show (μ6 1 0 0).toInt = _
    rw [e6]; exact R.1.1.1
  · show μ6 0 0 0 = 0
    rw [e0, w3_row, upd_ne _ _ (by omega), w3_row, upd_at]
  · show μ6 0 0 3 = 1
    rw [e0, w3_row, upd_at]
  · show RZ B (μ6 1 0) S
    rw [e6]; exact R
  · show μ6 2 0 k = μ 1 0 k
    rw [c1 k hk, e1]
  · show μ6 f i j = μ f i j
    rw [c2 f i h2]
    unfold w3
    rw [if_neg (fun z => h1 ⟨z.1, z.2.1, Or.inr z.2.2⟩), if_neg (fun z => h1 ⟨z.1, z.2.1, Or.inl z.2.2⟩)]
theorem mX7_restore_yes {S' : sqSt} (R : RZ B (μ 2 0) S') (hs : μ 0 0 3 = 1) : gOk (mX7_restore μ) (fun q => q.1.toInt = zti S' ∧ q.2 0 0 0 = 0 ∧ RZ B (q.2 1 0) S' ∧ ∀ f i j, ¬ (f = 0 ∧ i = 0 ∧ j = 0) → ¬ (f = 1 ∧ i = 0) → q.2 f i j = μ f i j) := by
  unfold mX7_restore
  refine gOk_guard (fun q => ?_) (fun q => absurd (hs.symm.trans q) (by decide))
  refine gOk_bp (mX7_copy_ok _ (f1 := 2) (f2 := 1) (by decide)) (fun μ10 h10 => gOk_some ?_)
  obtain ⟨c1, c2⟩ := h10
  have e2 : w3 μ 0 0 0 0 2 0 = μ 2 0 := w3_ne (by omega)
  have R1 : RA (μ10 1 0) S' := R.1.cg R.2.1 (fun k hk => by rw [c1 k hk, e2])
  refine ⟨R1.1.1, ?_, ⟨R1, R.2⟩, fun f i j h1 h2 => ?_⟩
  · show μ10 0 0 0 = 0
    rw [c2 0 0 (by omega), w3_000]
  · show μ10 f i j = μ f i j
    rw [c2 f i h2]
    unfold w3
    rw [if_neg h1]
theorem mX7_restore_no (R : RZ B (μ 1 0) S) (hs : μ 0 0 3 = 0) : gOk (mX7_restore μ) (rPost μ B (1, 0, S)) := by
  unfold mX7_restore
  exact gOk_guard (fun q => absurd hs q) (fun q => gOk_some (rPost_no R rfl (by omega) 0))
end SqApi7
