/-! The class: a log in its cells; the methods of a log that read it; the configuration that it keeps. -/
theorem w3_at (μ : gM) (f i j : Nat) (v : Int32) : w3 μ f i j v f i j = v := by unfold w3; rw [if_pos ⟨rfl, rfl, rfl⟩]
theorem w3_o (μ : gM) {f i j : Nat} (v : Int32) {f' i' j' : Nat} (h : ¬ (f' = f ∧ i' = i ∧ j' = j)) : w3 μ f i j v f' i' j' = μ f' i' j' := by unfold w3; rw [if_neg h]
/-- only cells with P differ -/
def gFr (P : Nat → Nat → Nat → Prop) (μ μ' : gM) : Prop := ∀ f i j, ¬ P f i j → μ' f i j = μ f i j
theorem gFr.rf {P : Nat → Nat → Nat → Prop} {μ : gM} : gFr P μ μ := fun _ _ _ _ => rfl
theorem gFr.tr {P : Nat → Nat → Nat → Prop} {μ μ1 μ2 : gM} (h : gFr P μ μ1) (k : gFr P μ1 μ2) : gFr P μ μ2 := fun f i j q => (k f i j q).trans (h f i j q)
theorem gFr.up {P Q : Nat → Nat → Nat → Prop} {μ μ1 : gM} (h : gFr P μ μ1) (k : ∀ f i j, P f i j → Q f i j) : gFr Q μ μ1 := fun f i j q => h f i j (fun p => q (k f i j p))
theorem gFr.w {P : Nat → Nat → Nat → Prop} {μ : gM} {f i j : Nat} {v : Int32} (h : P f i j) : gFr P μ (w3 μ f i j v) := fun f' i' j' q => w3_o μ v (fun z => q (by rw [z.1, z.2.1, z.2.2]; exact h))
/-- the cells of a log: the whole log is l, the base b -/
def CL (μ : gM) (n g : Nat) (l : List sqE) (b : Nat) : Prop :=
  (μ 12 n 3).toInt = (l.length : Int) - b ∧ b ≤ l.length ∧ l.length ≤ b + 24 ∧ (μ 12 n 4).toInt = (b : Int) ∧ (μ 12 n 5).toInt = (sqTT l b : Int) ∧ μ 12 n 6 = sqR (l.take b) ∧ (μ 12 n 7).toInt = ((sqF g (l.take b)).1 : Int) ∧ (μ 12 n 8).toInt = ((sqF g (l.take b)).2 : Int) ∧
  ∀ (j : Nat) (e : sqE), l[b + j]? = some e → (μ 16 n j).toInt = sqT e ∧ (μ 17 n j).toInt = e.2.1 ∧ μ 18 n j = e.2.2
/-- what it keeps of its configuration -/
def CF (μ : gM) (n g : Nat) (l : List sqE) (b : Nat) : Prop := (μ 12 n 9).toInt = ((max b (sqCI l) : Nat) : Int) ∧ (μ 12 n 10).toInt = ((sqF g l).1 : Int) ∧ (μ 12 n 11).toInt = ((sqF g l).2 : Int)
section SqCls
variable {μ μ' : gM} {n g b k i nc B : Nat} {l : List sqE} {a1 a2 a3 : Int32} {e : sqE}
theorem CL.cg (h : CL μ n g l b) (e : ∀ j, 3 ≤ j → j ≤ 8 → μ' 12 n j = μ 12 n j) (e2 : ∀ f j, 16 ≤ f → f ≤ 18 → j < 24 → μ' f n j = μ f n j) : CL μ' n g l b := by
  obtain ⟨h1, h2, h3, h4, h5, h6, h7, h8, h9⟩ := h
  refine ⟨by rw [e 3 (by omega) (by omega)]; exact h1, h2, h3, by rw [e 4 (by omega) (by omega)]; exact h4, by rw [e 5 (by omega) (by omega)]; exact h5, by rw [e 6 (by omega) (by omega)]; exact h6, by rw [e 7 (by omega) (by omega)]; exact h7, by rw [e 8 (by omega) (by omega)]; exact h8, fun j f hj => ?_⟩
  have := sq_lt hj
  rw [e2 16 j (by omega) (by omega) (by omega), e2 17 j (by omega) (by omega) (by omega), e2 18 j (by omega) (by omega) (by omega)]
  exact h9 j f hj
theorem mX1_lastIndex_ok (h : CL μ n g l b) (hB : l.length < 1000000000) : gOk (mX1_lastIndex nc n μ) (fun r => r.toInt = l.length) := by
  obtain ⟨h1, h2, h3, h4, -⟩ := h
  unfold mX1_lastIndex
  refine gOk_some ?_
  rw [ti_add h4 h1 (by omega) (by omega)]
  omega
theorem CL.at (h : CL μ n g l b) {j : Nat} {e : sqE} (hj : l[j]? = some e) (hb : b ≤ j) : (μ 16 n (j - b)).toInt = sqT e ∧ (μ 17 n (j - b)).toInt = e.2.1 ∧ μ 18 n (j - b) = e.2.2 := h.2.2.2.2.2.2.2.2 (j - b) e (by rw [show b + (j - b) = j by omega]; exact hj)
/-- a part of an entry by its index, or what stands for none -/
theorem mX1_partAt_ok (h : CL μ n g l b) (hB : l.length < 1000000000) {f : Nat} {ix : Nat} (h1 : a1.toInt = (ix : Int)) (hix : ix < 1000000000) : gOk (mX1_partAt nc n f n a1 a2 μ) (fun r => (b < ix ∧ ix ≤ l.length → r = μ f n (ix - 1 - b)) ∧ (¬ (b < ix ∧ ix ≤ l.length) → r = a2)) := by
  obtain ⟨r1, r2, r3, r4, -⟩ := h
  unfold mX1_partAt
  have e := ti_sub (ti_sub h1 r4 (by omega) (by omega)) (y := 1) (b := 1) rfl (by omega) (by omega)
  refine gOk_let ?_
  generalize (a1 - (μ 12 n 4)) - 1 = X at *
  refine gOk_lt e (y := 0) (b := 0) rfl (fun q => gOk_some ⟨fun z => by omega, fun _ => rfl⟩) (fun q => ?_)
  refine gOk_le r1 e (fun q2 => gOk_some ⟨fun z => by omega, fun _ => rfl⟩) (fun q2 => ?_)
  refine gOk_le (x := 24) (a := 24) rfl e (fun q3 => absurd q3 (by omega)) (fun q3 => ?_)
  have e' : X.toInt = ((ix - 1 - b : Nat) : Int) := by rw [e]; omega
  refine gOk_chk (ti_inb e' (by omega)) (gOk_some ⟨fun _ => by rw [ti_cl e'], fun z => absurd ⟨by omega, by omega⟩ z⟩)
theorem mX1_termAt_ok (h : CL μ n g l b) (hB : l.length < 1000000000) {ix : Nat} (h1 : a1.toInt = (ix : Int)) (hb : b ≤ ix) (hl : ix ≤ l.length) : gOk (mX1_termAt nc n a1 μ) (fun r => r.toInt = sqTT l ix) := by
  unfold mX1_termAt
  refine gOk_bp (mX1_partAt_ok h hB h1 (by omega)) (fun r hr => gOk_some ?_)
  rcases Nat.lt_or_ge b ix with q | q
  · have hj : l[ix - 1]? = some (l[ix - 1]'(by omega)) := List.getElem?_eq_getElem (by omega)
    rw [hr.1 ⟨q, hl⟩, (h.at hj (by omega)).1, ← sqTT_some hj, show ix - 1 + 1 = ix by omega]
  · rw [hr.2 (fun z => by omega), h.2.2.2.2.1, show ix = b by omega]
theorem mX1_lastTerm_ok (h : CL μ n g l b) : gOk (mX1_lastTerm nc n μ) (fun r => r.toInt = sqTT l l.length) := by
  have h' := h
  obtain ⟨r1, r2, r3, r4, r5, -⟩ := h'
  unfold mX1_lastTerm
  refine gOk_le r1 (y := 0) (b := 0) rfl (fun q => gOk_some ?_) (fun q => ?_)
  · rw [r5, show l.length = b by omega]
  · refine gOk_lt (x := 24) (a := 24) rfl r1 (fun q2 => absurd q2 (by omega)) (fun q2 => ?_)
    have e := ti_sub r1 (y := 1) (b := 1) rfl (by omega) (by omega)
    have e' : ((μ 12 n 3) - 1).toInt = ((l.length - 1 - b : Nat) : Int) := by rw [e]; omega
    refine gOk_chk (ti_inb e' (by omega)) (gOk_some ?_)
    have hj : l[l.length - 1]? = some (l[l.length - 1]'(by omega)) := List.getElem?_eq_getElem (by omega)
    rw [ti_cl e', (h.at hj (by omega)).1, ← sqTT_some hj, show l.length - 1 + 1 = l.length by omega]
theorem mX1_has_ok (h : CL μ n g l b) (hB : l.length < 1000000000) {ix : Int} (h1 : a1.toInt = ix) : gOk (mX1_has nc n a1 μ) (fun r => r = if (b : Int) < ix ∧ ix ≤ l.length then 1 else 0) := by
  obtain ⟨r1, r2, r3, r4, -⟩ := h
  unfold mX1_has
  have e := ti_add r4 r1 (by omega) (by omega)
  refine gOk_le h1 r4 (fun q => gOk_some ?_) (fun q => gOk_lt e h1 (fun q2 => gOk_some ?_) (fun q2 => gOk_some ?_))
  · rw [if_neg (fun z => by omega)]
  · rw [if_neg (fun z => by omega)]
  · rw [if_pos ⟨by omega, by omega⟩]
theorem mX1_isFull_ok (h : CL μ n g l b) : gOk (mX1_isFull nc n μ) (fun r => r = if l.length < b + 24 then 0 else 1) := by
  obtain ⟨r1, r2, r3, r4, -⟩ := h
  unfold mX1_isFull
  refine gOk_lt r1 (y := 24) (b := 24) rfl (fun q => gOk_some ?_) (fun q => gOk_some ?_)
  · rw [if_pos (by omega)]
  · rw [if_neg (by omega)]
theorem mX1_isNotAheadOf_ok (h : CL μ n g l b) (hB : l.length < 1000000000) {ix t : Nat} (h1 : a1.toInt = (ix : Int)) (h2 : a2.toInt = (t : Int)) : gOk (mX1_isNotAheadOf nc n a1 a2 μ) (fun r => (r = 0 ∨ r = 1) ∧ (r = 1 ↔ (sqTT l l.length < t ∨ (sqTT l l.length = t ∧ l.length ≤ ix)))) := by
  unfold mX1_isNotAheadOf
  refine gOk_bp (mX1_lastTerm_ok h) (fun r2 hr => gOk_lt hr h2 (fun q => gOk_some ⟨Or.inr rfl, fun _ => Or.inl (by omega), fun _ => rfl⟩) (fun q => ?_))
  refine gOk_eq h2 hr (fun q2 => ?_) (fun q2 => gOk_some ⟨Or.inl rfl, fun z => absurd z (by decide), fun z => by omega⟩)
  refine gOk_bp (mX1_lastIndex_ok h hB) (fun r6 h6 => gOk_lt h1 h6 (fun q3 => gOk_some ⟨Or.inl rfl, fun z => absurd z (by decide), fun z => by omega⟩) (fun q3 => gOk_some ⟨Or.inr rfl, fun _ => Or.inr ⟨by omega, by omega⟩, fun _ => rfl⟩))
theorem mX1_fits_ok (h : CL μ n g l b) (hB : l.length < 1000000000) {ix t : Nat} (h1 : a1.toInt = (ix : Int)) (h2 : a2.toInt = (t : Int)) : gOk (mX1_fits nc n a1 a2 μ) (fun r => r = if l.length < ix ∨ (b < ix ∧ sqTT l ix ≠ t) then 0 else 1) := by
  have r2 := h.2.1
  unfold mX1_fits
  refine gOk_le h1 h.2.2.2.1 (fun q => gOk_some ?_) (fun q => ?_)
  · rw [if_neg (fun z => by omega)]
  · refine gOk_bp (mX1_lastIndex_ok h hB) (fun r3 h3 => gOk_lt h3 h1 (fun q2 => gOk_some ?_) (fun q2 => ?_))
    · rw [if_pos (Or.inl (by omega))]
    · refine gOk_bp (mX1_termAt_ok h hB h1 (by omega) (by omega)) (fun r6 h6 => gOk_eq h6 h2 (fun q3 => gOk_some ?_) (fun q3 => gOk_some ?_))
      · rw [if_neg (fun z => by omega)]
      · rw [if_pos (Or.inr ⟨by omega, by omega⟩)]
theorem i32_bits : ∀ a : Fin 32, mJ6_bitCount_0f7a4 0 (Int32.ofNat a.val) (fun _ _ _ => 0) = some (Int32.ofNat (sqPc a.val)) := by decide +kernel
theorem mJ6_bitCount_ok {x : Int32} {a : Nat} (hx : x.toInt = (a : Int)) (ha : a < 32) : gOk (mJ6_bitCount_0f7a4 nc x μ) (fun r => r.toInt = (sqPc a : Int)) := by
  have h := i32_bits ⟨a, ha⟩
  have hp : sqPc a ≤ 5 := sqPc_le ⟨a, ha⟩
  rw [ti_of hx]
  refine ⟨Int32.ofNat (sqPc a), h, ti_nat (by omega)⟩
theorem mX1_isQuorum_ok (h : CF μ n g l b) (hG : sqG (sqF g l)) {W : Nat → Bool} (h1 : a1.toInt = (sqMk W : Int)) : gOk (mX1_isQuorum nc n a1 μ) (fun r => r = if sqQb (sqF g l) W then 1 else 0) := by
  obtain ⟨c1, c2, c3⟩ := h
  have hz : ((sqF g l).2 == 0) = false := by rw [beq_eq_false_iff_ne]; have := hG.2.1; omega
  have hand : ∀ {y : Int32} {c : Nat}, y.toInt = (c : Int) → c < 32 → (a1 &&& y).toInt = ((sqMk W &&& c : Nat) : Int) := fun {y c} hy hc => by
    have h9 := sqAnd_lt (a := sqMk W) hc
    have h8 := i32_and ⟨sqMk W, sqMk_lt W⟩ ⟨c, hc⟩
    rw [ti_of h1, ti_of hy]
    exact (congrArg Int32.toInt h8).trans (ti_nat (n := sqMk W &&& c) (by omega))
  unfold mX1_isQuorum sqQb
  rw [sqMb_pc, sqMb_pc]
  have p1 : sqPc (sqMk W &&& (sqF g l).2) ≤ 5 := sqPc_le ⟨_, sqAnd_lt hG.2.2⟩
  have p2 : sqPc (sqMk W &&& (sqF g l).1) ≤ 5 := sqPc_le ⟨_, sqAnd_lt hG.1⟩
  refine gOk_bp (mJ6_bitCount_ok (hand c3 hG.2.2) (sqAnd_lt hG.2.2)) (fun r2 h2 => gOk_bp (mJ6_bitCount_ok c3 hG.2.2) (fun r4 h4 => ?_))
  refine gOk_lt h4 (ti_mul (x := 2) (a := 2) rfl h2 (by omega) (by omega)) (fun q => ?_) (fun q => gOk_some ?_)
  · have e1 : decide (sqPc (sqF g l).2 < 2 * sqPc (sqMk W &&& (sqF g l).2)) = true := decide_eq_true (by omega)
    rw [e1, Bool.true_and]
    refine gOk_eq c2 (y := 0) (b := 0) rfl (fun q2 => gOk_some ?_) (fun q2 => ?_)
    · have : (sqF g l).1 = 0 := by omega
      rw [this]; rfl
    · have e2 : ((sqF g l).1 == 0) = false := by rw [beq_eq_false_iff_ne]; omega
      rw [e2, Bool.false_or]
      refine gOk_bp (mJ6_bitCount_ok (hand c2 hG.1) (sqAnd_lt hG.1)) (fun r8 h8 => gOk_bp (mJ6_bitCount_ok c2 hG.1) (fun r10 h10 => ?_))
      refine gOk_le (ti_mul (x := 2) (a := 2) rfl h8 (by omega) (by omega)) h10 (fun q3 => gOk_some ?_) (fun q3 => gOk_some ?_)
      · rw [if_neg]; rw [decide_eq_true_eq]; omega
      · rw [if_pos]; rw [decide_eq_true_eq]; omega
  · have e1 : decide (sqPc (sqF g l).2 < 2 * sqPc (sqMk W &&& (sqF g l).2)) = false := decide_eq_false (by omega)
    rw [e1, Bool.false_and]; rfl
theorem mX1_isMember_ok (h : CF μ n g l b) (hG : sqG (sqF g l)) (hi : i < 5) (h1 : a1.toInt = (i : Int)) : gOk (mX1_isMember nc n a1 μ) (fun r => r = if ((sqF g l).1.testBit i || (sqF g l).2.testBit i) then 1 else 0) := by
  obtain ⟨c1, c2, c3⟩ := h
  unfold mX1_isMember
  rw [ti_of c2, ti_of c3, ti_of h1, i32_or ⟨_, hG.1⟩ ⟨_, hG.2.2⟩]
  have := i32_bit ⟨(sqF g l).1 ||| (sqF g l).2, sqOr_lt hG.1 hG.2.2⟩ ⟨i, hi⟩
  rw [← sqOr_bit]
  refine gOk_if (fun q => gOk_some ?_) (fun q => gOk_some ?_)
  · rw [if_pos (this.mp q)]
  · rw [if_neg (fun w => q (this.mpr w))]
theorem mX1_isJoint_ok (h : CF μ n g l b) : gOk (mX1_isJoint nc n μ) (fun r => r = if (sqF g l).1 = 0 then 0 else 1) := by
  unfold mX1_isJoint
  refine gOk_eq h.2.1 (y := 0) (b := 0) rfl (fun q => gOk_some ?_) (fun q => gOk_some ?_)
  · rw [if_pos (by omega)]
  · rw [if_neg (by omega)]
/-- the cells of the kept configuration -/
def cfP (n : Nat) : Nat → Nat → Nat → Prop := fun f i j => f = 12 ∧ i = n ∧ 9 ≤ j ∧ j ≤ 11
theorem mX1_isConfiguration_ok (h : CL μ n g l b) {j : Nat} {e : sqE} (hj : l[b + j]? = some e) (h1 : a1.toInt = (j : Int)) : gOk (mX1_isConfiguration nc n a1 μ) (fun r => r = if (sqC e).isSome then 1 else 0) := by
  have hl := sq_lt hj
  have h3 := h.2.2.1
  obtain ⟨-, p2, -⟩ := h.2.2.2.2.2.2.2.2 j e hj
  unfold mX1_isConfiguration
  refine gOk_chk (ti_inb h1 (by omega)) ?_
  simp only [ti_cl h1]
  refine gOk_eq p2 (y := 1) (b := 1) rfl (fun q => gOk_some ?_) (fun q => gOk_chk (ti_inb h1 (by omega)) (gOk_eq p2 (y := 2) (b := 2) rfl (fun q2 => gOk_some ?_) (fun q2 => gOk_some ?_)))
  · rw [if_pos ((sqC_some e).mpr (Or.inl (by omega)))]
  · rw [if_pos ((sqC_some e).mpr (Or.inr (by omega)))]
  · rw [if_neg (fun z => by rcases (sqC_some e).mp z with y | y <;> omega)]
/-- a configuration's value taken apart -/
theorem LE1.cfg (h : LE1 B e) {c : Nat × Nat} (hc : sqC e = some c) : (e.2.2 / 32).toInt = (c.1 : Int) ∧ (e.2.2 - e.2.2 / 32 * 32).toInt = (c.2 : Int) := by
  have key : ∀ w, w < 1024 → e.2.2 = Int32.ofNat w → c = (w / 32, w % 32) → (e.2.2 / 32).toInt = (c.1 : Int) ∧ (e.2.2 - e.2.2 / 32 * 32).toInt = (c.2 : Int) := by
    intro w hw he hcw
    have := i32_cfg ⟨w, hw⟩
    rw [hcw, he]
    constructor
    · rw [this.2.2.1]; exact ti_nat (by show w / 32 < _; omega)
    · rw [this.2.2.2]; exact ti_nat (by show w % 32 < _; omega)
  rcases (sqC_some e).mp (by rw [hc]; rfl) with q | q
  · obtain ⟨w, w1, w2⟩ := h.2.2.1 q
    refine key w w2 w1 ?_
    unfold sqC at hc
    rw [if_pos q, w1, ti_cl (ti_nat (by omega))] at hc
    exact (Option.some.inj hc).symm
  · obtain ⟨w, w1, w2⟩ := h.2.2.2 q
    refine key w (by omega) w1 ?_
    unfold sqC at hc
    rw [if_neg (by omega), if_pos q, w1, ti_cl (ti_nat (by omega))] at hc
    rw [← Option.some.inj hc, show w / 32 = 0 by omega]
theorem mX1_findConfiguration_ok (h : CL μ n g l b) (hL : LL B l) (hB : l.length < 1000000000) : gOk (mX1_findConfiguration nc n μ) (fun μ' => gFr (cfP n) μ μ' ∧ CL μ' n g l b ∧ CF μ' n g l b) := by
  have h' := h
  obtain ⟨r1, r2, r3, r4, r5, r6, r7, r8, r9⟩ := h'
  have cl : ∀ {μ1 : gM}, gFr (cfP n) μ μ1 → CL μ1 n g l b := fun f => h.cg (fun j a c => f 12 n j (fun z => by have := z.2.2; omega)) (fun f' j a c _ => f f' n j (fun z => by have := z.1; omega))
  unfold mX1_findConfiguration
  refine gOk_let (gOk_let (gOk_let (gOk_jon ?_)))
  have F3 : gFr (cfP n) μ (w3 (w3 (w3 μ 12 n 9 (μ 12 n 4)) 12 n 10 (w3 μ 12 n 9 (μ 12 n 4) 12 n 7)) 12 n 11 (w3 (w3 μ 12 n 9 (μ 12 n 4)) 12 n 10 (w3 μ 12 n 9 (μ 12 n 4) 12 n 7) 12 n 8)) := (gFr.w ⟨rfl, rfl, by omega, by omega⟩).tr ((gFr.w ⟨rfl, rfl, by omega, by omega⟩).tr (gFr.w ⟨rfl, rfl, by omega, by omega⟩))
  refine gOk_fx2 (fun v (x9 : Int32) (μ10 : gM) => ∃ j, v = l.length - b - j ∧ j ≤ l.length - b ∧ x9.toInt = (j : Int) ∧ gFr (cfP n) μ μ10 ∧ (μ10 12 n 9).toInt = ((max b (sqCI (l.take (b + j))) : Nat) : Int) ∧ (μ10 12 n 10).toInt = ((sqF g (l.take (b + j))).1 : Int) ∧ (μ10 12 n 11).toInt = ((sqF g (l.take (b + j))).2 : Int)) ?_ 1000000 (l.length - b) _ _ (by omega) ⟨0, rfl, Nat.zero_le _, rfl, F3, ?_, ?_, ?_⟩
  · intro rec v x9 μ10 hI ih
    obtain ⟨j, hv, j1, j2, j3, j4, j5, j6⟩ := hI
    subst hv
    have C10 := cl j3
    have z3 := C10.1
    refine gOk_le z3 j2 (fun q => gOk_some ⟨j3, C10, ?_⟩) (fun q => ?_)
    · have hj : b + j = l.length := by omega
      rw [hj, List.take_length] at j4 j5 j6
      exact ⟨j4, j5, j6⟩
    · refine gOk_le (x := 24) (a := 24) rfl j2 (fun q2 => absurd q2 (by omega)) (fun q2 => ?_)
      have hlt : b + j < l.length := by omega
      have hg : l[b + j]? = some l[b + j] := List.getElem?_eq_getElem hlt
      have hlen : (l.take (b + j)).length = b + j := by rw [List.length_take]; omega
      have hs := sqCI_snoc (l.take (b + j)) l[b + j]
      have hf := sqF_snoc g (l.take (b + j)) l[b + j]
      rw [← List.take_succ_eq_append_getElem hlt, hlen] at hs
      rw [← List.take_succ_eq_append_getElem hlt] at hf
      have e1 : (x9 + 1).toInt = ((j + 1 : Nat) : Int) := by rw [ti_add j2 (y := 1) (b := 1) rfl (by omega) (by omega)]; omega
      refine gOk_bp (mX1_isConfiguration_ok C10 hg j2) (fun r15 h15 => ?_)
      have hLE := hL _ (List.getElem_mem hlt)
      have pv := (C10.2.2.2.2.2.2.2.2 j _ hg).2.2
      generalize l[b + j] = e at *
      cases hc : sqC e with
      | none =>
        rw [hc] at h15 hs hf
        refine gOk_if (fun _ => ih _ _ (l.length - b - (j + 1)) (by omega) ⟨j + 1, rfl, by omega, e1, j3, ?_, ?_, ?_⟩) (fun z => absurd h15 z)
        · rw [show b + (j + 1) = b + j + 1 by omega, hs]; exact j4
        · rw [show b + (j + 1) = b + j + 1 by omega, hf]; exact j5
        · rw [show b + (j + 1) = b + j + 1 by omega, hf]; exact j6
      | some c =>
        rw [hc] at h15 hs hf
        obtain ⟨v1, v2⟩ := hLE.cfg hc
        have h15 : r15 = 1 := h15
        have hs : sqCI (l.take (b + j + 1)) = b + j + 1 := hs
        refine gOk_if (fun z => absurd (h15.symm.trans z) (by decide)) (fun _ => gOk_let (gOk_chk (ti_inb j2 (by omega)) (gOk_let (gOk_chk (ti_inb j2 (by omega)) (gOk_let (ih _ _ (l.length - b - (j + 1)) (by omega) ⟨j + 1, rfl, by omega, e1, j3.tr ((gFr.w ⟨rfl, rfl, by omega, by omega⟩).tr ((gFr.w ⟨rfl, rfl, by omega, by omega⟩).tr (gFr.w ⟨rfl, rfl, by omega, by omega⟩))), ?_, ?_, ?_⟩))))))
        · rw [w3_o _ _ (by omega), w3_o _ _ (by omega), w3_at, ti_add (ti_add C10.2.2.2.1 (y := 1) (b := 1) rfl (by omega) (by omega)) j2 (by omega) (by omega)]
          rw [show b + (j + 1) = b + j + 1 by omega, hs]
          omega
        · rw [w3_o _ _ (by omega), w3_at, ti_cl j2, w3_o _ _ (by omega), pv, v1]
          rw [show b + (j + 1) = b + j + 1 by omega, hf]; rfl
        · rw [w3_at, ti_cl j2, w3_o _ _ (by omega), w3_o _ _ (by omega), pv, v2]
          rw [show b + (j + 1) = b + j + 1 by omega, hf]; rfl
  · rw [w3_o _ _ (by omega), w3_o _ _ (by omega), w3_at, r4]
    have := sqCI_le (l.take b)
    rw [List.length_take] at this
    show (b : Int) = ((max b (sqCI (l.take b)) : Nat) : Int)
    omega
  · rw [w3_o _ _ (by omega), w3_at, w3_o _ _ (by omega)]; exact r7
  · rw [w3_at, w3_o _ _ (by omega), w3_o _ _ (by omega)]; exact r8
end SqCls
