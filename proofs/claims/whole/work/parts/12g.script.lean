/-! Scripts: the class reads them. -/
def BuC (μ : gM) (β : Nat → Int32) (len : Nat) : Prop := (μ 1 0 4).toInt = (len : Int) ∧ len ≤ 80 ∧ ∀ i, i < len → μ 2 0 i = β i
/-- the cells of the class's reading, at place x of the rows -/
def ccP (x : Nat) : Nat → Nat → Nat → Prop := fun f i j => i = 0 ∧ (f = 1 ∧ j = 5 ∨ 3 ≤ f ∧ f ≤ 5 ∧ j = x)
/-- where the class reads -/
def cpP : Nat → Nat → Nat → Prop := fun f i j => i = 0 ∧ f = 1 ∧ j = 5
theorem cpP_cc {x : Nat} : ∀ f i j, cpP f i j → ccP x f i j := fun _ _ _ h => ⟨h.1, Or.inl h.2⟩
section SqScr4
variable {μ μ' : gM} {β : Nat → Int32} {len p q k v w m n e B nc x : Nat} {a1 a2 a3 : Int32} {S : sqSt}
theorem BuC.fr (h : BuC μ β len) (F : gFr (ccP x) μ μ') : BuC μ' β len := by
  obtain ⟨h1, h2, h3⟩ := h
  exact ⟨by rw [F 1 0 4 (by unfold ccP; omega)]; exact h1, h2, fun i hi => by rw [F 2 0 i (by unfold ccP; omega)]; exact h3 i hi⟩
theorem BuC.fp (h : BuC μ β len) (F : gFr cpP μ μ') : BuC μ' β len := h.fr (F.up (cpP_cc (x := 0)))
theorem mX5_isBetween_ok (h : BuC μ β len) (hp : (μ 1 0 5).toInt = (p : Int)) {lo hi : Int} (h1 : a1.toInt = lo) (h2 : a2.toInt = hi) : gOk (mX5_isBetween nc a1 a2 μ) (fun r => r = if zSee β len p lo hi = true then 1 else 0) := by
  obtain ⟨b1, b2, b3⟩ := h
  unfold mX5_isBetween zSee
  refine gOk_lt hp (y := 0) (b := 0) rfl (fun z => absurd z (by omega)) (fun _ => gOk_le b1 hp (fun z => gOk_some ?_) (fun z => gOk_le (x := 80) (a := 80) rfl hp (fun y => absurd y (by omega)) (fun _ => ?_)))
  · rw [if_neg (by rw [decide_eq_true_eq]; omega)]
  · have e := b3 p (by omega)
    simp only [ti_cl hp, e]
    refine gOk_chk (ti_inb hp (by omega)) (gOk_lt (x := β p) rfl h1 (fun y => gOk_some ?_) (fun y => gOk_chk (ti_inb hp (by omega)) (gOk_lt h2 (y := β p) rfl (fun x => gOk_some ?_) (fun x => gOk_some ?_))))
    · rw [if_neg (by rw [decide_eq_true_eq]; omega)]
    · rw [if_neg (by rw [decide_eq_true_eq]; omega)]
    · rw [if_pos (by rw [decide_eq_true_eq]; omega)]
theorem mX5_skip_ok (h : BuC μ β len) (hp : (μ 1 0 5).toInt = (p : Int)) {c : Int} (h1 : a1.toInt = c) : gOk (mX5_skip nc a1 μ) (fun q => (zSee β len p c c = true → q.1 = 1 ∧ gFr cpP μ q.2 ∧ (q.2 1 0 5).toInt = ((p + 1 : Nat) : Int)) ∧ (zSee β len p c c = false → q = (0, μ))) := by
  have h8 := h.2.1
  unfold mX5_skip
  refine gOk_bp (mX5_isBetween_ok h hp h1 h1) (fun r2 h2 => ?_)
  by_cases z : zSee β len p c c = true
  · have hz := (zSee_lt z).1
    rw [if_pos z] at h2
    refine gOk_if (fun y => absurd (h2.symm.trans y) (by decide)) (fun _ => gOk_lee (fun μ4 h4 => gOk_some ⟨fun _ => ⟨rfl, ?_, ?_⟩, fun y => by rw [z] at y; cases y⟩))
    · show gFr cpP μ μ4
      rw [h4]; exact gFr.w ⟨rfl, rfl, rfl⟩
    · show (μ4 1 0 5).toInt = _
      rw [h4, w3_at, ti_add hp (y := 1) (b := 1) rfl (by omega) (by omega)]; omega
  · rw [if_neg z] at h2
    exact gOk_if (fun _ => gOk_some ⟨fun y => absurd y z, fun _ => rfl⟩) (fun y => absurd h2 y)
theorem mX5_parseNumber_ok (h : BuC μ β len) (hp : (μ 1 0 5).toInt = (p : Int)) (hpl : p ≤ len) {f1 : Nat} (hf : f1 = 4 ∨ f1 = 5) (hx : x < 16) (h2 : a2.toInt = (x : Int)) : gOk (mX5_parseNumber nc f1 0 a2 μ) (fun q => gFr (fun f i j => i = 0 ∧ (f = 1 ∧ j = 5 ∨ f = f1 ∧ j = x)) μ q.2 ∧ (q.2 1 0 5).toInt = ((zNm β len 3 0 p).2 : Int) ∧ (q.2 f1 0 x).toInt = ((zNm β len 3 0 p).1 : Int) ∧ (zNm β len 3 0 p).2 ≤ len ∧ q.1 = if zSee β len p 48 57 = true then 1 else 0) := by
  have h8 := h.2.1
  unfold mX5_parseNumber
  refine gOk_lee (fun x1 hx1 => ?_)
  have e1 : x1.toInt = (p : Int) := by rw [hx1]; exact hp
  refine gOk_jq2 (fun (x5 : Int32) (μ6 : gM) => gFr cpP μ μ6 ∧ x5.toInt = ((zNm β len 3 0 p).1 : Int) ∧ (μ6 1 0 5).toInt = ((zNm β len 3 0 p).2 : Int) ∧ (zNm β len 3 0 p).2 ≤ len) (fun x5 μ6 hc => ?_) (fun j7 hj7 => ?_)
  · obtain ⟨F6, c1, c2, c3⟩ := hc
    simp only [ti_cl h2]
    refine gOk_chk (ti_inb h2 hx) (gOk_lee (fun μ9 h9 => ?_))
    have e9 : (μ9 1 0 5).toInt = ((zNm β len 3 0 p).2 : Int) := by rw [h9, w3_o _ _ (by omega)]; exact c2
    have F9 : gFr (fun f i j => i = 0 ∧ (f = 1 ∧ j = 5 ∨ f = f1 ∧ j = x)) μ μ9 := (F6.up (fun f i j z => ⟨z.1, Or.inl z.2⟩)).tr (by rw [h9]; exact gFr.w ⟨rfl, Or.inr ⟨rfl, rfl⟩⟩)
    have v9 : (μ9 f1 0 x).toInt = ((zNm β len 3 0 p).1 : Int) := by rw [h9, w3_at]; exact c1
    have key : (zNm β len 3 0 p).2 ≤ p ↔ ¬ zSee β len p 48 57 = true := by
      constructor
      · intro y z
        unfold zNm at y
        rw [if_pos z] at y
        exact Nat.not_succ_le_self p (Nat.le_trans (zNm_ge (β := β) (len := len) 2 (10 * 0 + (β p).toInt.toNat - 48) (p + 1)).1 y)
      · intro z
        unfold zNm
        rw [if_neg z]; exact Nat.le_refl _
    refine gOk_le e9 e1 (fun z => gOk_some ⟨F9, e9, v9, c3, ?_⟩) (fun z => gOk_some ⟨F9, e9, v9, c3, ?_⟩)
    · rw [if_neg (key.mp (by omega))]
    · rw [if_pos (Classical.byContradiction fun y => by have := key.mpr y; omega)]
  · refine gOk_fx2 (fun c (x12 : Int32) (μ13 : gM) => ∃ (v q : Nat), c ≤ 3 ∧ x12.toInt = (v : Int) ∧ v ≤ 999 ∧ (c ≤ 2 → v + 1 ≤ 10 ^ (3 - c)) ∧ (c = 3 → v = 0) ∧ q + c = p + 3 ∧ q ≤ len ∧ (μ13 1 0 5).toInt = (q : Int) ∧ gFr cpP μ μ13 ∧ zNm β len c v q = zNm β len 3 0 p) ?_ 1000000 3 _ _ (by omega) ⟨0, p, Nat.le_refl _, rfl, by omega, fun z => absurd z (by omega), fun _ => rfl, rfl, hpl, hp, gFr.rf, rfl⟩
    intro rec c x12 μ13 hI ih
    obtain ⟨v, q, c0, c1, c2, c2a, c2b, c3, c4, c5, c6, c7⟩ := hI
    have done : zNm β len c v q = (v, q) → gOk (j7 x12 μ13) _ := fun hz => hj7 x12 μ13 ⟨c6, by rw [← c7, hz]; exact c1, by rw [← c7, hz]; exact c5, by rw [← c7, hz]; exact c4⟩
    refine gOk_le (ti_add e1 (y := 3) (b := 3) rfl (by omega) (by omega)) c5 (fun z => done ?_) (fun z => ?_)
    · have : c = 0 := by omega
      subst this; rfl
    · obtain ⟨c', rfl⟩ : ∃ c', c = c' + 1 := ⟨c - 1, by omega⟩
      have h13 := h.fp c6
      refine gOk_bp (mX5_isBetween_ok h13 c5 (a1 := 48) (a2 := 57) (lo := 48) (hi := 57) rfl rfl) (fun r17 h17 => ?_)
      by_cases y : zSee β len q 48 57 = true
      · rw [if_pos y] at h17
        have hz := zSee_lt y
        have e5 := h13.2.2 q hz.1
        refine gOk_if (fun u => absurd (h17.symm.trans u) (by decide)) (fun _ => ?_)
        simp only [ti_cl c5, e5]
        refine gOk_chk (ti_inb c5 (by omega)) (gOk_lee (fun x20 h20 => gOk_lee (fun μ24 h24 => ?_)))
        have e20 : x20.toInt = ((10 * v + (β q).toInt.toNat - 48 : Nat) : Int) := by
          rw [h20, ti_sub (ti_add (ti_mul (x := 10) (a := 10) rfl c1 (by omega) (by omega)) (y := β q) rfl (by omega) (by omega)) (y := 48) (b := 48) rfl (by omega) (by omega)]; omega
        have e24 : (μ24 1 0 5).toInt = ((q + 1 : Nat) : Int) := by rw [h24, w3_at, ti_add c5 (y := 1) (b := 1) rfl (by omega) (by omega)]; omega
        have hzn : zNm β len (c' + 1) v q = zNm β len c' (10 * v + (β q).toInt.toNat - 48) (q + 1) := by
          conv => lhs; unfold zNm
          rw [if_pos y]
        have hp10 : 10 * v + (β q).toInt.toNat - 48 + 1 ≤ 10 ^ (3 - c') := by
          have e10 : 10 ^ (3 - c') = 10 ^ (3 - (c' + 1)) * 10 := by rw [← Nat.pow_succ]; congr 1; omega
          have hv1 : v + 1 ≤ 10 ^ (3 - (c' + 1)) := by
            by_cases u : c' + 1 ≤ 2
            · exact c2a u
            · have : c' + 1 = 3 := by omega
              rw [c2b this, this]; decide
          rw [e10]; omega
        have h999 : 10 * v + (β q).toInt.toNat - 48 ≤ 999 := by
          have := zNm_999 (β := β) (len := len) p
          rw [← c7, hzn] at this
          have h1 : ∀ k v q, v ≤ (zNm β len k v q).1 ∨ True := fun _ _ _ => Or.inr trivial
          rcases (show c' = 0 ∨ c' = 1 ∨ c' = 2 by omega) with u | u | u <;> subst u <;> simp at hp10 <;> omega
        exact ih _ _ c' (by omega) ⟨10 * v + (β q).toInt.toNat - 48, q + 1, by omega, e20, h999, fun _ => hp10, fun u => absurd u (by omega), by omega, by omega, e24, c6.tr (by rw [h24]; exact gFr.w ⟨rfl, rfl, rfl⟩), by rw [← hzn]; exact c7⟩
      · rw [if_neg y] at h17
        refine gOk_if (fun _ => done ?_) (fun u => absurd h17 u)
        conv => lhs; unfold zNm
        rw [if_neg y]
/-- the words one by one, as they stand in the row -/
theorem zTb_in : ∀ (w : Fin 7) (k : Fin 7), (k.val < (jsB (24 + w.val)).length → i2c ((jsB (24 + w.val)).getD k.val 0 &&& 255) = zTb (7 * w.val + k.val) ∧ zTb (7 * w.val + k.val) ≠ 32 ∧ vp_nar .char (i2c ((jsB (24 + w.val)).getD k.val 0 &&& 255)) = i2c ((jsB (24 + w.val)).getD k.val 0 &&& 255)) ∧ (¬ k.val < (jsB (24 + w.val)).length → zTb (7 * w.val + k.val) = 32) := by decide +kernel
theorem zTb_ln : ∀ (w : Fin 7), (jsB (24 + w.val)).length ≤ 7 := by decide +kernel
theorem mX5_isWord_ok (h : BuC μ β len) {E : Nat} (hp : (μ 1 0 5).toInt = (E : Int)) (hw : w < 7) (h2 : a2.toInt = (p : Int)) (hpE : p ≤ E) (hEl : E ≤ len) (hlet : ∀ i, p ≤ i → i < E → 97 ≤ (β i).toInt ∧ (β i).toInt ≤ 122) : gOk (mX5_isWord nc (24 + w) a2 μ) (fun r => r = if zMt β w p (E - p) = true then 1 else 0) := by
  have h8 := h.2.1
  have tin := fun k (hk : k < 7) => zTb_in ⟨w, hw⟩ ⟨k, hk⟩
  have l7 : (jsB (24 + w)).length ≤ 7 := zTb_ln ⟨w, hw⟩
  have n32 : ∀ i, p ≤ i → i < E → β i ≠ 32 := fun i i1 i2 z => by
    have := hlet i i1 i2
    rw [z] at this
    have e : (32 : Int32).toInt = 32 := rfl
    omega
  have big : ∀ y : Int32, y = Int32.ofNat (jsB (24 + w)).length → y.toInt = ((jsB (24 + w)).length : Int) := fun y hy => by rw [hy]; exact ti_nat (by omega)
  unfold mX5_isWord
  generalize hL : (jsB (24 + w)).length = L at *
  refine gOk_lee (fun x1 hx1 => ?_)
  have e1 := big x1 hx1
  have ed : ((μ 1 0 5) - a2).toInt = ((E - p : Nat) : Int) := by rw [ti_sub hp h2 (by omega) (by omega)]; omega
  refine gOk_eq ed e1 (fun z => ?_) (fun z => gOk_some ?_)
  · have hm : E - p = L := by omega
    refine gOk_jq (γ := Unit) (fun _ => zMt β w p (E - p) = true) (fun _ hc => gOk_some (by rw [if_pos hc])) (fun j6 hj6 => ?_)
    refine gOk_fx1 (fun v (x8 : Int32) => ∃ k : Nat, v = L - k ∧ k ≤ L ∧ x8.toInt = (k : Int) ∧ ∀ j, j < k → zTb (7 * w + j) = β (p + j)) ?_ 1000000 L _ (by omega) ⟨0, rfl, Nat.zero_le _, rfl, fun j hj => absurd hj (Nat.not_lt_zero j)⟩
    intro rec v x8 hI ih
    obtain ⟨k, hv, k1, k2, k3⟩ := hI
    subst hv
    refine gOk_lee (fun x10 h10 => ?_)
    have e10 : x10.toInt = (L : Int) := big x10 h10
    refine gOk_le e10 k2 (fun y => hj6 () (zMt_iff.mpr ⟨by omega, fun j hj => ?_⟩)) (fun y => ?_)
    · by_cases u : j < E - p
      · rw [if_pos u]; exact k3 j (by omega)
      · rw [if_neg u]
        exact (tin j hj).2 (by show ¬ j < _; omega)
    · have hk : k < L := by omega
      obtain ⟨t1, t2, t3⟩ := (tin k (by omega)).1 (by show k < _; omega)
      have e8 : (a2 + x8).toInt = ((p + k : Nat) : Int) := by rw [ti_add h2 k2 (by omega) (by omega)]; omega
      have e9 : (x8 + 1).toInt = ((k + 1 : Nat) : Int) := by rw [ti_add k2 (y := 1) (b := 1) rfl (by omega) (by omega)]; omega
      refine gOk_chk (ti_inb k2 hk) (gOk_chk (Int32.lt_iff_toInt_lt.mpr (by rw [k2, ti_nat (by omega)]; omega)) ?_)
      simp only [ti_cl k2, ti_cl e8, h.2.2 (p + k) (by omega)]
      refine gOk_chk t3 (gOk_lee (fun x18 h18 => gOk_chk (ti_inb e8 (by omega)) ?_))
      have h18 : x18 = zTb (7 * w + k) := h18.trans t1
      refine gOk_if (fun u => ih _ (L - (k + 1)) (by omega) ⟨k + 1, rfl, by omega, e9, fun j hj => ?_⟩) (fun u => gOk_some ?_)
      · by_cases x : j = k
        · subst x; rw [← h18]; exact u
        · exact k3 j (by omega)
      · rw [if_neg (fun x => u ?_)]
        have := (zMt_iff.mp x).2 k (by omega)
        rw [if_pos (by omega)] at this
        rw [h18]; exact this
  · rw [if_neg (fun y => z ?_)]
    obtain ⟨y1, y2⟩ := zMt_iff.mp y
    rcases Nat.lt_trichotomy (E - p) L with u | u | u
    · have := y2 (E - p) (by omega)
      rw [if_neg (by omega)] at this
      exact absurd this ((tin (E - p) (by omega)).1 (by show E - p < _; omega)).2.1
    · omega
    · have a := y2 L (by omega)
      rw [if_pos u] at a
      have b := (tin L (by omega)).2 (by show ¬ L < _; omega)
      exact absurd (a.symm.trans b) (n32 (p + L) (by omega) (by omega))
theorem zTb_inj : ∀ (w v : Fin 7), (∀ k : Fin 7, zTb (7 * w.val + k.val) = zTb (7 * v.val + k.val)) → w = v := by decide +kernel
theorem zMt_uq {u : Nat} (hw : w < 7) (hu : u < 7) (h1 : zMt β w p m = true) (h2 : zMt β u p m = true) : w = u := by
  have := zTb_inj ⟨w, hw⟩ ⟨u, hu⟩ (fun k => ((zMt_iff.mp h1).2 k.val k.isLt).trans ((zMt_iff.mp h2).2 k.val k.isLt).symm)
  exact congrArg Fin.val this
theorem zWn_is : ∀ k, k ≤ 7 → w < k → zMt β w p m = true → zWn β p m k = (w : Int) := by
  intro k
  induction k with
  | zero => intro _ h; omega
  | succ k ih =>
    intro h1 h2 h3
    unfold zWn
    by_cases z : zMt β k p m = true
    · rw [if_pos z, zMt_uq (by omega) (by omega) h3 z]
    · rw [if_neg z]
      refine ih (by omega) (Nat.lt_of_le_of_ne (by omega) (fun y => z (by rw [← y]; exact h3))) h3
theorem zWn_no : ∀ k, (∀ w, w < k → ¬ zMt β w p m = true) → zWn β p m k = -1 := by
  intro k
  induction k with
  | zero => intro _; rfl
  | succ k ih =>
    intro h
    unfold zWn
    rw [if_neg (h k (by omega))]
    exact ih (fun w hw => h w (by omega))
theorem mX5_wordFrom_ok (h : BuC μ β len) {E : Nat} (hp : (μ 1 0 5).toInt = (E : Int)) (h2 : a2.toInt = (p : Int)) (hpE : p ≤ E) (hEl : E ≤ len) (hlet : ∀ i, p ≤ i → i < E → 97 ≤ (β i).toInt ∧ (β i).toInt ≤ 122) : gOk (mX5_wordFrom nc a2 μ) (fun r => r.toInt = zWn β p (E - p) 7) := by
  have word := fun w (hw : w < 7) => mX5_isWord_ok (nc := nc) h hp hw h2 hpE hEl hlet
  have yes := fun w (hw : w < 7) (hm : zMt β w p (E - p) = true) => zWn_is (β := β) (p := p) (m := E - p) 7 (Nat.le_refl 7) hw hm
  unfold mX5_wordFrom
  refine gOk_bp (word 0 (by omega)) (fun r2 h2 => gOk_t01 h2 (fun z0 => ?_) (fun z => gOk_some (yes 0 (by omega) z).symm))
  refine gOk_bp (word 1 (by omega)) (fun r2 h2 => gOk_t01 h2 (fun z1 => ?_) (fun z => gOk_some (yes 1 (by omega) z).symm))
  refine gOk_bp (word 2 (by omega)) (fun r2 h2 => gOk_t01 h2 (fun z2 => ?_) (fun z => gOk_some (yes 2 (by omega) z).symm))
  refine gOk_bp (word 3 (by omega)) (fun r2 h2 => gOk_t01 h2 (fun z3 => ?_) (fun z => gOk_some (yes 3 (by omega) z).symm))
  refine gOk_bp (word 4 (by omega)) (fun r2 h2 => gOk_t01 h2 (fun z4 => ?_) (fun z => gOk_some (yes 4 (by omega) z).symm))
  refine gOk_bp (word 5 (by omega)) (fun r2 h2 => gOk_t01 h2 (fun z5 => ?_) (fun z => gOk_some (yes 5 (by omega) z).symm))
  refine gOk_bp (word 6 (by omega)) (fun r2 h2 => gOk_lee (fun x21 h21 => gOk_some ?_))
  by_cases z6 : zMt β 6 p (E - p) = true
  · rw [if_pos z6] at h2
    rw [h21, h2, if_neg (by decide)]
    exact (yes 6 (by omega) z6).symm
  · rw [if_neg z6] at h2
    rw [h21, h2, if_pos rfl, ti_m1]
    refine (zWn_no 7 (fun w hw hm => ?_)).symm
    rcases (show w = 0 ∨ w = 1 ∨ w = 2 ∨ w = 3 ∨ w = 4 ∨ w = 5 ∨ w = 6 by omega) with y | y | y | y | y | y | y <;> subst y
    · exact z0 hm
    · exact z1 hm
    · exact z2 hm
    · exact z3 hm
    · exact z4 hm
    · exact z5 hm
    · exact z6 hm
end SqScr4
