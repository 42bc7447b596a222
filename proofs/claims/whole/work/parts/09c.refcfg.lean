/-! The reference: configurations, quorums, results. -/
theorem sqF_CI (g : Nat) (l : List sqE) : ∀ n, n ≤ l.length → (0 < sqCI (l.take n) → ∃ e, l[sqCI (l.take n) - 1]? = some e ∧ sqC e = some (sqF g (l.take n))) ∧ ∀ b, b ≤ n → sqCI (l.take n) ≤ b → sqF g (l.take n) = sqF g (l.take b) := by
  intro n
  induction n with
  | zero =>
    intro _
    refine ⟨fun h => absurd h (by simp [sqCI]), fun b hb _ => ?_⟩
    rw [show b = 0 by omega]
  | succ n ih =>
    intro hn
    obtain ⟨i1, i2⟩ := ih (Nat.le_of_lt hn)
    have hl : (l.take n).length = n := by rw [List.length_take]; omega
    have e1 : l.take (n + 1) = l.take n ++ [l[n]] := List.take_succ_eq_append_getElem hn
    have e2 : l[n]? = some l[n] := List.getElem?_eq_getElem hn
    cases hc : sqC l[n] with
    | none =>
      have c1 : sqCI (l.take (n + 1)) = sqCI (l.take n) := by rw [e1, sqCI_snoc, hc]; rfl
      have c2 : sqF g (l.take (n + 1)) = sqF g (l.take n) := by rw [e1, sqF_snoc, hc]; rfl
      rw [c1, c2]
      refine ⟨i1, fun b hb hc' => ?_⟩
      rcases Nat.lt_or_ge n b with q | q
      · rw [show b = n + 1 by omega, c2]
      · exact i2 b q hc'
    | some c =>
      have c1 : sqCI (l.take (n + 1)) = n + 1 := by rw [e1, sqCI_snoc, hc, hl]; rfl
      have c2 : sqF g (l.take (n + 1)) = c := by rw [e1, sqF_snoc, hc]; rfl
      rw [c1]
      refine ⟨fun _ => ⟨l[n], e2, by rw [c2]; exact hc⟩, fun b hb hc' => ?_⟩
      rw [show b = n + 1 by omega]
theorem sqR_snoc (l : List sqE) (e : sqE) : sqR (l ++ [e]) = if e.2.1 = 0 then 31 * sqR l + e.2.2 else sqR l := by
  simp [sqR, List.foldl_append]
theorem sqC_some (e : sqE) : (sqC e).isSome = true ↔ (e.2.1 = 1 ∨ e.2.1 = 2) := by
  unfold sqC
  by_cases h1 : e.2.1 = 1
  · rw [if_pos h1]; simp [h1]
  · rw [if_neg h1]
    by_cases h2 : e.2.1 = 2
    · rw [if_pos h2]; simp [h2]
    · rw [if_neg h2]; simp [h1, h2]
section SqRef2
variable {μ : gM} {S : sqSt} {B n k i : Nat} {a1 a2 a3 : Int32} {N : sqN}
theorem mX7_configurationAt_ok (R : RA (μ 1 0) S) (L : LI B S) (hB : B < 1000000000) (hn : n < 5) (h1 : a1.toInt = (n : Int)) {e : Nat} (h2 : a2.toInt = (e : Int)) (hb : nbs (zno S n) ≤ e) (hl : e ≤ (nlg (zno S n)).length) : gOk (mX7_configurationAt a1 a2 μ) (fun r => r.toInt = ((max (nbs (zno S n)) (sqCI ((nlg (zno S n)).take e)) : Nat) : Int)) := by
  obtain ⟨⟨r1, r2, r3, r4, r5, r6, r7, r8, r9, r10, r11, r12⟩, -⟩ := R.2.1 n hn
  have hll := (L.2.2.2.1 n hn).2.1
  unfold mX7_configurationAt
  refine gOk_be (mX7_of_ok μ h1 (k := 7) rfl hn (by omega)) (gOk_let (gOk_jon (gOk_fx2 (fun m x9 x10 => ∃ i : Nat, m = e - i ∧ nbs (zno S n) ≤ i ∧ i ≤ e ∧ x10.toInt = (i : Int) + 1 ∧ x9.toInt = ((max (nbs (zno S n)) (sqCI ((nlg (zno S n)).take i)) : Nat) : Int)) ?_ 1000000 (e - nbs (zno S n)) _ _ (by omega) ⟨nbs (zno S n), rfl, Nat.le_refl _, hb, ti_add r5 (y := 1) (b := 1) rfl (by omega) (by omega), ?_⟩)))
  · rintro rec m x9 x10 ⟨i, rfl, i1, i2, i3, i4⟩ ih
    refine gOk_lt h2 i3 (fun q => ?_) (fun q => ?_)
    · refine gOk_some ?_
      rw [i4, show i = e by omega]
    · have hlt : i < (nlg (zno S n)).length := by omega
      have e2 : (nlg (zno S n))[i]? = some (nlg (zno S n))[i] := List.getElem?_eq_getElem hlt
      have hlt' : ((nlg (zno S n)).take i).length = i := by rw [List.length_take]; omega
      have hs := sqCI_snoc ((nlg (zno S n)).take i) (nlg (zno S n))[i]
      rw [← List.take_succ_eq_append_getElem hlt, hlt'] at hs
      refine gOk_bp (mX7_entryOf_ok R L hB hn h1 e2 i1 (p := 1) (by rw [i3]; omega) (a3 := 1) rfl (by omega)) (fun r hr => ?_)
      have hr1 := hr.2.1 rfl
      have h10 := ti_add i3 (y := 1) (b := 1) rfl (by omega) (by omega)
      have hx : ∀ x : Int32, x.toInt = ((max (nbs (zno S n)) (sqCI ((nlg (zno S n)).take (i + 1))) : Nat) : Int) → gOk (rec x (x10 + 1)) (fun r => r.toInt = ((max (nbs (zno S n)) (sqCI ((nlg (zno S n)).take e)) : Nat) : Int)) := fun x hx => ih _ _ (e - (i + 1)) (by omega) ⟨i + 1, rfl, by omega, by omega, by rw [h10]; omega, hx⟩
      refine gOk_eq hr1 (y := 1) (b := 1) rfl (fun q1 => ?_) (fun q1 => ?_)
      · refine hx _ ?_
        rw [if_pos ((sqC_some _).mpr (Or.inl (by omega)))] at hs
        rw [i3, hs]; omega
      · refine gOk_let (hx _ ?_)
        by_cases q2 : r = 2
        · rw [if_pos q2]
          have : r.toInt = 2 := by rw [q2]; rfl
          rw [if_pos ((sqC_some _).mpr (Or.inr (by omega)))] at hs
          rw [i3, hs]; omega
        · rw [if_neg q2]
          have h2' : r.toInt ≠ 2 := fun w => q2 (ti_eq w (y := 2) rfl)
          rw [if_neg (fun w => by
            rcases (sqC_some _).mp w with z | z
            · omega
            · omega)] at hs
          rw [i4, hs]
  · rw [r5]
    have := sqCI_le ((nlg (zno S n)).take (nbs (zno S n)))
    have : sqCI ((nlg (zno S n)).take (nbs (zno S n))) ≤ nbs (zno S n) := Nat.le_trans this (by rw [List.length_take]; exact Nat.min_le_left _ _)
    omega
/-- what stands at the index of the configuration up to e -/
theorem sq_at (L : LI B S) (hn : n < 5) {e : Nat} (hb : nbs (zno S n) ≤ e) (hl : e ≤ (nlg (zno S n)).length) (h : nbs (zno S n) < sqCI ((nlg (zno S n)).take e)) : ∃ f c, (nlg (zno S n))[sqCI ((nlg (zno S n)).take e) - 1]? = some f ∧ sqC f = some c ∧ c = sqF (zg S) ((nlg (zno S n)).take e) ∧ ∃ w, f.2.2 = Int32.ofNat w ∧ w < 1024 ∧ c = (w / 32, w % 32) ∧ (f.2.1 = 1 ∨ (f.2.1 = 2 ∧ w < 32)) := by
  obtain ⟨f, h1, h2⟩ := (sqF_CI (zg S) (nlg (zno S n)) e hl).1 (by omega)
  refine ⟨f, _, h1, h2, rfl, ?_⟩
  have hE := (L.2.2.2.1 n hn).2.2.1 f (List.mem_of_getElem? h1)
  rcases (sqC_some f).mp (by rw [h2]; rfl) with q | q
  · obtain ⟨w, w1, w2⟩ := hE.2.2.1 q
    refine ⟨w, w1, w2, ?_, Or.inl q⟩
    unfold sqC at h2
    rw [if_pos q, w1, ti_cl (ti_nat (by omega))] at h2
    exact (Option.some.inj h2).symm
  · obtain ⟨w, w1, w2⟩ := hE.2.2.2 q
    refine ⟨w, w1, by omega, ?_, Or.inr ⟨q, w2⟩⟩
    unfold sqC at h2
    rw [if_neg (by omega), if_pos q, w1, ti_cl (ti_nat (by omega))] at h2
    rw [← Option.some.inj h2, show w / 32 = 0 by omega]
theorem mX7_oldOf_ok (R : RA (μ 1 0) S) (L : LI B S) (hB : B < 1000000000) (hn : n < 5) (h1 : a1.toInt = (n : Int)) {e : Nat} (hb : nbs (zno S n) ≤ e) (hl : e ≤ (nlg (zno S n)).length) (h2 : a2.toInt = ((max (nbs (zno S n)) (sqCI ((nlg (zno S n)).take e)) : Nat) : Int)) : gOk (mX7_oldOf a1 a2 μ) (fun r => r.toInt = ((sqF (zg S) ((nlg (zno S n)).take e)).1 : Int)) := by
  have R' := R
  obtain ⟨⟨r1, r2, r3, r4, r5, r6, r7, r8, r9, r10, r11, r12⟩, -⟩ := R'.2.1 n hn
  unfold mX7_oldOf
  refine gOk_be (mX7_of_ok μ h1 (k := 7) rfl hn (by omega)) (gOk_eq h2 r5 (fun q => ?_) (fun q => ?_))
  · refine gOk_be (mX7_of_ok μ h1 (k := 10) rfl hn (by omega)) (gOk_some ?_)
    rw [r8, (sqF_CI (zg S) (nlg (zno S n)) e hl).2 (nbs (zno S n)) hb (by omega)]
  · obtain ⟨f, c, f1, f2, f3, w, w1, w2, w3, w4⟩ := sq_at L hn hb hl (by omega)
    have h2' : a2.toInt = ((sqCI ((nlg (zno S n)).take e) - 1 + 1 : Nat) : Int) := by rw [h2]; omega
    rw [← f3, w3]
    refine gOk_bp (mX7_entryOf_ok R L hB hn h1 f1 (by omega) (p := 1) h2' (a3 := 1) rfl (by omega)) (fun r hr => ?_)
    refine gOk_eq (hr.2.1 rfl) (y := 1) (b := 1) rfl (fun q1 => ?_) (fun q1 => gOk_some ?_)
    · refine gOk_bp (mX7_entryOf_ok R L hB hn h1 f1 (by omega) (p := 2) h2' (a3 := 2) rfl (by omega)) (fun r hr => gOk_some ?_)
      rw [hr.2.2 rfl, w1, (i32_cfg ⟨w, w2⟩).1, ti_nat (by show w / 32 < _; omega)]
    · have : w < 32 := by omega
      show (0 : Int) = ((w / 32 : Nat) : Int)
      omega
theorem mX7_newOf_ok (R : RA (μ 1 0) S) (L : LI B S) (hB : B < 1000000000) (hn : n < 5) (h1 : a1.toInt = (n : Int)) {e : Nat} (hb : nbs (zno S n) ≤ e) (hl : e ≤ (nlg (zno S n)).length) (h2 : a2.toInt = ((max (nbs (zno S n)) (sqCI ((nlg (zno S n)).take e)) : Nat) : Int)) : gOk (mX7_newOf a1 a2 μ) (fun r => r.toInt = ((sqF (zg S) ((nlg (zno S n)).take e)).2 : Int)) := by
  have R' := R
  obtain ⟨⟨r1, r2, r3, r4, r5, r6, r7, r8, r9, r10, r11, r12⟩, -⟩ := R'.2.1 n hn
  unfold mX7_newOf
  refine gOk_be (mX7_of_ok μ h1 (k := 7) rfl hn (by omega)) (gOk_eq h2 r5 (fun q => ?_) (fun q => ?_))
  · refine gOk_be (mX7_of_ok μ h1 (k := 11) rfl hn (by omega)) (gOk_some ?_)
    rw [r9, (sqF_CI (zg S) (nlg (zno S n)) e hl).2 (nbs (zno S n)) hb (by omega)]
  · obtain ⟨f, c, f1, f2, f3, w, w1, w2, w3, w4⟩ := sq_at L hn hb hl (by omega)
    have h2' : a2.toInt = ((sqCI ((nlg (zno S n)).take e) - 1 + 1 : Nat) : Int) := by rw [h2]; omega
    rw [← f3, w3]
    refine gOk_bp (mX7_entryOf_ok R L hB hn h1 f1 (by omega) (p := 2) h2' (a3 := 2) rfl (by omega)) (fun r hr => gOk_some ?_)
    rw [hr.2.2 rfl, w1, (i32_cfg ⟨w, w2⟩).2.1, ti_nat (by show w % 32 < _; omega)]
/-- safety and bounds together with the reference's row -/
def RZ (B : Nat) (A : Nat → Int32) (S : sqSt) : Prop := RA A S ∧ zIL B S ∧ B < 1000000000
theorem RZ.bd (R : RZ B (μ 1 0) S) (hn : n < 5) : ncm (zno S n) ≤ (nlg (zno S n)).length ∧ nbs (zno S n) ≤ (nlg (zno S n)).length ∧ (nlg (zno S n)).length ≤ nbs (zno S n) + 24 ∧ nbs (zno S n) ≤ ncm (zno S n) := by
  obtain ⟨h, I⟩ := R.2.1.1
  exact zCmx_bd I hn
theorem RZ.G (R : RZ B (μ 1 0) S) (hn : n < 5) : sqG (zc S (zno S n)) := by
  obtain ⟨h, I⟩ := R.2.1.1
  exact I.G hn
theorem mX7_configuration_ok (R : RZ B (μ 1 0) S) (hn : n < 5) (h1 : a1.toInt = (n : Int)) : gOk (mX7_configuration a1 μ) (fun r => r.toInt = ((max (nbs (zno S n)) (sqCI (nlg (zno S n))) : Nat) : Int)) := by
  have hb := R.bd hn
  unfold mX7_configuration
  refine gOk_bp (mX7_last_ok R.1 R.2.1.2 R.2.2 hn h1) (fun r hr => gOk_bp (mX7_configurationAt_ok R.1 R.2.1.2 R.2.2 hn h1 hr hb.2.1 (Nat.le_refl _)) (fun r hr => gOk_some ?_))
  rw [hr, List.take_length]
theorem mX7_cfg_ok (R : RZ B (μ 1 0) S) (hn : n < 5) (h1 : a1.toInt = (n : Int)) (h2 : a2.toInt = ((max (nbs (zno S n)) (sqCI (nlg (zno S n))) : Nat) : Int)) : gOk (mX7_oldOf a1 a2 μ) (fun r => r.toInt = ((zc S (zno S n)).1 : Int)) ∧ gOk (mX7_newOf a1 a2 μ) (fun r => r.toInt = ((zc S (zno S n)).2 : Int)) := by
  have hb := R.bd hn
  have e : (nlg (zno S n)).take (nlg (zno S n)).length = nlg (zno S n) := List.take_length
  have x1 := mX7_oldOf_ok R.1 R.2.1.2 R.2.2 hn h1 hb.2.1 (Nat.le_refl _) (a2 := a2) (by rw [e]; exact h2)
  have x2 := mX7_newOf_ok R.1 R.2.1.2 R.2.2 hn h1 hb.2.1 (Nat.le_refl _) (a2 := a2) (by rw [e]; exact h2)
  rw [e] at x1 x2
  exact ⟨x1, x2⟩
theorem mX7_members_ok (R : RZ B (μ 1 0) S) (hn : n < 5) (h1 : a1.toInt = (n : Int)) : gOk (mX7_members a1 μ) (fun r => ∃ c : Nat, c < 32 ∧ r.toInt = (c : Int) ∧ ∀ i, c.testBit i = zmem S (zno S n) i) := by
  have hG := R.G hn
  unfold mX7_members
  refine gOk_bp (mX7_configuration_ok R hn h1) (fun r hr => ?_)
  obtain ⟨x1, x2⟩ := mX7_cfg_ok R hn h1 hr
  refine gOk_bp x1 (fun r4 h4 => gOk_bp x2 (fun r6 h6 => gOk_some ?_))
  rw [ti_of h4, ti_of h6, i32_or ⟨_, hG.1⟩ ⟨_, hG.2.2⟩]
  refine ⟨_, sqOr_lt hG.1 hG.2.2, ti_nat ?_, fun i => ?_⟩
  · have := sqOr_lt hG.1 hG.2.2
    show (zc S (zno S n)).1 ||| (zc S (zno S n)).2 < 2147483648
    omega
  · rw [sqOr_bit]; rfl
theorem mX7_has_ok (μ : gM) {c v : Nat} (hc : c < 32) (hv : v < 5) (h1 : a1.toInt = (c : Int)) (h2 : a2.toInt = (v : Int)) : gOk (mX7_has a1 a2 μ) (fun r => r = if c.testBit v then 1 else 0) := by
  unfold mX7_has
  rw [ti_of h1, ti_of h2]
  have := i32_bit ⟨c, hc⟩ ⟨v, hv⟩
  refine gOk_if (fun q => gOk_some ?_) (fun q => gOk_some ?_)
  · rw [if_pos (this.mp q)]
  · rw [if_neg (fun w => q (this.mpr w))]
theorem mX7_isMost_ok (μ : gM) {s c : Nat} (hs : s < 32) (hc : c < 32) (h1 : a1.toInt = (s : Int)) (h2 : a2.toInt = (c : Int)) : gOk (mX7_isMost a1 a2 μ) (fun r => r = if (c == 0 || decide (sqPc c < 2 * sqPc (s &&& c))) then 1 else 0) := by
  unfold mX7_isMost
  refine gOk_eq h2 (y := 0) (b := 0) rfl (fun q => gOk_some ?_) (fun q => ?_)
  · have : c = 0 := by omega
    rw [this]; rfl
  · have hand : (a1 &&& a2).toInt = ((s &&& c : Nat) : Int) := by
      rw [ti_of h1, ti_of h2, i32_and ⟨s, hs⟩ ⟨c, hc⟩]
      have := sqAnd_lt (a := s) hc
      exact ti_nat (by show s &&& c < _; omega)
    have p1 := sqPc_le ⟨c, hc⟩
    have p2 := sqPc_le ⟨s &&& c, sqAnd_lt hc⟩
    have hc0 : (c == 0) = false := by
      rw [beq_eq_false_iff_ne]; omega
    refine gOk_bp (mX7_countBits_ok μ hand (sqAnd_lt hc)) (fun r3 h3 => gOk_bp (mX7_countBits_ok μ h2 hc) (fun r5 h5 => ?_))
    simp only at p1 p2
    refine gOk_le (ti_mul (x := 2) (a := 2) rfl h3 (by omega) (by omega)) h5 (fun q2 => gOk_some ?_) (fun q2 => gOk_some ?_)
    · rw [hc0, Bool.false_or, if_neg]
      rw [decide_eq_true_eq]; omega
    · rw [hc0, Bool.false_or, if_pos]
      rw [decide_eq_true_eq]; omega
theorem mX7_isQuorum_ok (R : RZ B (μ 1 0) S) (hn : n < 5) (h1 : a1.toInt = (n : Int)) {W : Nat → Bool} (h2 : a2.toInt = (sqMk W : Int)) : gOk (mX7_isQuorum a1 a2 μ) (fun r => r = if sqQb (zc S (zno S n)) W then 1 else 0) := by
  have hG := R.G hn
  unfold mX7_isQuorum
  refine gOk_bp (mX7_configuration_ok R hn h1) (fun r hr => ?_)
  obtain ⟨x1, x2⟩ := mX7_cfg_ok R hn h1 hr
  have hz : ((zc S (zno S n)).2 == 0) = false := by rw [beq_eq_false_iff_ne]; have := hG.2.1; omega
  unfold sqQb
  rw [sqMb_pc, sqMb_pc]
  refine gOk_bp x1 (fun r4 h4 => gOk_bp (mX7_isMost_ok μ (sqMk_lt W) hG.1 h2 h4) (fun r6 h6 => ?_))
  refine gOk_if (fun q => gOk_some ?_) (fun q => ?_)
  · rw [h6] at q
    by_cases z : ((zc S (zno S n)).1 == 0 || decide (sqPc (zc S (zno S n)).1 < 2 * sqPc (sqMk W &&& (zc S (zno S n)).1))) = true
    · rw [if_pos z] at q; exact absurd q (by decide)
    · rw [Bool.not_eq_true] at z
      rw [z, Bool.and_false]; rfl
  · have z : ((zc S (zno S n)).1 == 0 || decide (sqPc (zc S (zno S n)).1 < 2 * sqPc (sqMk W &&& (zc S (zno S n)).1))) = true := by
      refine Classical.byContradiction fun z => q ?_
      rw [h6, if_neg z]
    rw [z, Bool.and_true]
    refine gOk_bp x2 (fun r9 h9 => gOk_bp (mX7_isMost_ok μ (sqMk_lt W) hG.2.2 h2 h9) (fun r11 h11 => ?_))
    rw [hz, Bool.false_or] at h11
    refine gOk_if (fun q2 => gOk_some ?_) (fun q2 => gOk_some ?_)
    · rw [h11] at q2
      by_cases y : decide (sqPc (zc S (zno S n)).2 < 2 * sqPc (sqMk W &&& (zc S (zno S n)).2)) = true
      · rw [if_pos y] at q2; exact absurd q2 (by decide)
      · rw [if_neg y]
    · by_cases y : decide (sqPc (zc S (zno S n)).2 < 2 * sqPc (sqMk W &&& (zc S (zno S n)).2)) = true
      · rw [if_pos y]
      · rw [if_neg y] at h11
        exact absurd h11 q2
theorem mX7_resultOf_ok (R : RZ B (μ 1 0) S) (hn : n < 5) (h1 : a1.toInt = (n : Int)) : gOk (mX7_resultOf a1 μ) (fun r => r = sqR ((nlg (zno S n)).take (ncm (zno S n)))) := by
  have hb := R.bd hn
  obtain ⟨⟨r1, r2, r3, r4, r5, r6, r7, r8, r9, r10, r11, r12⟩, -⟩ := R.1.2.1 n hn
  have hll := (R.2.1.2.2.2.2.1 n hn).2.1
  have hB := R.2.2
  unfold mX7_resultOf
  refine gOk_be (mX7_of_ok μ h1 (k := 9) rfl hn (by omega)) (gOk_be (mX7_of_ok μ h1 (k := 7) rfl hn (by omega)) (gOk_let (gOk_jon (gOk_fx2 (fun m x11 x12 => ∃ i : Nat, m = ncm (zno S n) - i ∧ nbs (zno S n) ≤ i ∧ i ≤ ncm (zno S n) ∧ x12.toInt = (i : Int) + 1 ∧ x11 = sqR ((nlg (zno S n)).take i)) ?_ 1000000 (ncm (zno S n) - nbs (zno S n)) _ _ (by omega) ⟨nbs (zno S n), rfl, Nat.le_refl _, hb.2.2.2, ti_add r5 (y := 1) (b := 1) rfl (by omega) (by omega), r7⟩))))
  rintro rec m x11 x12 ⟨i, rfl, i1, i2, i3, rfl⟩ ih
  refine gOk_be (mX7_of_ok μ h1 (k := 4) rfl hn (by omega)) (gOk_lt r4 i3 (fun q => gOk_some ?_) (fun q => ?_))
  · rw [show i = ncm (zno S n) by omega]
  · have hlt : i < (nlg (zno S n)).length := by omega
    have e2 : (nlg (zno S n))[i]? = some (nlg (zno S n))[i] := List.getElem?_eq_getElem hlt
    have hs := sqR_snoc ((nlg (zno S n)).take i) (nlg (zno S n))[i]
    rw [← List.take_succ_eq_append_getElem hlt] at hs
    have h12 := ti_add i3 (y := 1) (b := 1) rfl (by omega) (by omega)
    refine gOk_bp (mX7_entryOf_ok R.1 R.2.1.2 hB hn h1 e2 i1 (p := 1) (by rw [i3]; omega) (a3 := 1) rfl (by omega)) (fun r hr => ?_)
    refine gOk_eq (hr.2.1 rfl) (y := 0) (b := 0) rfl (fun q1 => ?_) (fun q1 => ?_)
    · refine gOk_bp (mX7_entryOf_ok R.1 R.2.1.2 hB hn h1 e2 i1 (p := 2) (by rw [i3]; omega) (a3 := 2) rfl (by omega)) (fun r hr => gOk_let ?_)
      refine ih _ _ (ncm (zno S n) - (i + 1)) (by omega) ⟨i + 1, rfl, by omega, by omega, by rw [h12]; omega, ?_⟩
      rw [hs, if_pos (by omega), hr.2.2 rfl]
    · refine ih _ _ (ncm (zno S n) - (i + 1)) (by omega) ⟨i + 1, rfl, by omega, by omega, by rw [h12]; omega, ?_⟩
      rw [hs, if_neg (by omega)]
end SqRef2
