/-! Quotients of ints are no NaN; shares. -/
section SqFp
/-- the numbers that rounding makes -/
def fpF (d : FP.Core.Datum) : Prop := (∃ s, d = .inf s) ∨ ∃ s c q, d = .fin s c q ∧ c < 9007199254740992 ∧ q ≤ 971
theorem fp_p : (2 : Nat) ^ FP.Core.b64.p = 9007199254740992 := by decide +kernel
theorem fp_qmax : FP.Core.b64.qmax = 971 := by decide +kernel
theorem fp_qmin : FP.Core.b64.qmin = -1074 := by decide +kernel
theorem fp_exps : FP.Core.b64.exps = 2048 := by decide +kernel
theorem fp_tails : FP.Core.b64.tails = 4503599627370496 := by decide +kernel
theorem fp_bound {s : Bool} {c : Nat} {q : Int} (hc : c < 9007199254740992) : fpF (FP.Core.bound FP.Core.b64 s c q) := by
  unfold FP.Core.bound
  rw [fp_qmax]
  by_cases h : q ≤ 971
  · rw [if_pos h]
    exact Or.inr ⟨s, c, q, rfl, hc, h⟩
  · rw [if_neg h]
    exact Or.inl ⟨s, rfl⟩
theorem fp_settle (s : Bool) (c : Nat) (q : Int) : fpF (FP.Core.settle FP.Core.b64 s c q) := by
  unfold FP.Core.settle
  rw [fp_p, fp_tails]
  by_cases h : c < 9007199254740992
  · rw [if_pos h]
    exact fp_bound h
  · rw [if_neg h]
    exact fp_bound (by omega)
theorem fp_round (s : Bool) (a b : Nat) (e : Int) : fpF (FP.Core.roundRatio FP.Core.b64 s a b e) := by
  unfold FP.Core.roundRatio
  by_cases h : a = 0
  · rw [if_pos h, fp_qmin]
    exact Or.inr ⟨s, 0, _, rfl, by omega, by omega⟩
  · rw [if_neg h]
    exact fp_settle _ _ _
theorem fp_asm (s : Bool) (e t : Nat) (he : e < 2048) (ht : t < 4503599627370496) : FP.Core.assemble FP.Core.b64 s e t % 9223372036854775808 = e * 4503599627370496 + t := by
  unfold FP.Core.assemble
  rw [fp_exps, fp_tails]
  cases s with
  | false =>
    have : (Bool.toNat false) = 0 := rfl
    rw [this]
    omega
  | true =>
    have : (Bool.toNat true) = 1 := rfl
    rw [this]
    omega
theorem fp_enc {d : FP.Core.Datum} (h : fpF d) : FP.Core.encode FP.Core.b64 d % 9223372036854775808 ≤ 9218868437227405312 := by
  rcases h with ⟨s, rfl⟩ | ⟨s, c, q, rfl, h1, h2⟩
  · unfold FP.Core.encode
    show FP.Core.assemble FP.Core.b64 s (FP.Core.b64.exps - 1) 0 % _ ≤ _
    rw [fp_exps, fp_asm s _ _ (by omega) (by omega)]
    omega
  · unfold FP.Core.encode
    show (if c < FP.Core.b64.tails then FP.Core.assemble FP.Core.b64 s 0 c else FP.Core.assemble FP.Core.b64 s ((q - FP.Core.b64.qmin).toNat + 1) (c - FP.Core.b64.tails)) % _ ≤ _
    rw [fp_tails, fp_qmin]
    by_cases z : c < 4503599627370496
    · rw [if_pos z, fp_asm s _ _ (by omega) z]; omega
    · rw [if_neg z, fp_asm s _ _ (by omega) (by omega)]; omega
/-- an int as a double is finite, and not 0 unless the int is -/
theorem fp_int (i : Int) (h : i.natAbs < 4294967296) : FP.Core.fromInt FP.Core.b64 i % 9223372036854775808 < 9218868437227405312 ∧ (i ≠ 0 → FP.Core.fromInt FP.Core.b64 i % 9223372036854775808 ≠ 0) := by
  have key : ∀ (s : Bool) (n : Nat), n < 4294967296 → FP.Core.encode FP.Core.b64 (FP.Core.roundRatio FP.Core.b64 s n 1 0) % 9223372036854775808 < 9218868437227405312 ∧ (n ≠ 0 → FP.Core.encode FP.Core.b64 (FP.Core.roundRatio FP.Core.b64 s n 1 0) % 9223372036854775808 ≠ 0) := by
    intro s n hn
    by_cases z : n = 0
    · subst z
      refine ⟨?_, fun y => absurd rfl y⟩
      unfold FP.Core.roundRatio
      rw [if_pos rfl]
      show (if 0 < FP.Core.b64.tails then FP.Core.assemble FP.Core.b64 s 0 0 else FP.Core.assemble FP.Core.b64 s ((FP.Core.b64.qmin - FP.Core.b64.qmin).toNat + 1) (0 - FP.Core.b64.tails)) % _ < _
      rw [fp_tails, if_pos (by omega), fp_asm s _ _ (by omega) (by omega), Nat.zero_mul]
      exact Nat.pos_of_ne_zero (by decide)
    · have hl : n.log2 < 32 := (Nat.log2_lt z).mpr hn
      have hq : FP.Core.quantum FP.Core.b64 n 1 0 ≤ 0 := by
        unfold FP.Core.quantum FP.Core.leading
        have e1 : (1 : Nat).log2 = 0 := by decide +kernel
        have e2 : ((FP.Core.b64.p : Nat) : Int) = 53 := by decide +kernel
        rw [fp_qmin, e1, e2]
        show max (-1074) ((if 1 * 2 ^ ((n.log2 : Int) - ((0 : Nat) : Int)).toNat ≤ n * 2 ^ (-((n.log2 : Int) - ((0 : Nat) : Int))).toNat then (n.log2 : Int) - ((0 : Nat) : Int) else (n.log2 : Int) - ((0 : Nat) : Int) - 1) + 0 - (53 - 1)) ≤ 0
        split <;> omega
      have hr : FP.Core.roundRatio FP.Core.b64 s n 1 0 = FP.Core.roundAt FP.Core.b64 s n 1 0 (FP.Core.quantum FP.Core.b64 n 1 0) := by
        unfold FP.Core.roundRatio
        rw [if_neg z]
      rw [hr]
      generalize FP.Core.quantum FP.Core.b64 n 1 0 = q at *
      unfold FP.Core.roundAt
      have hd : FP.Core.unitsDen 1 0 q = 1 := by
        unfold FP.Core.unitsDen
        rw [show (q - 0).toNat = 0 by omega]
      have hu : 1 ≤ FP.Core.unitsNum n 0 q := by
        unfold FP.Core.unitsNum
        exact Nat.mul_pos (Nat.pos_of_ne_zero z) (Nat.pow_pos (by omega))
      rw [hd]
      generalize FP.Core.unitsNum n 0 q = u at *
      have hne : FP.Core.nearest u 1 = u := by
        unfold FP.Core.nearest
        rw [Nat.mod_one, if_pos (by omega), Nat.div_one]
      rw [hne]
      have enc : ∀ c q', 1 ≤ c → c < 9007199254740992 → q' ≤ 1 → FP.Core.encode FP.Core.b64 (FP.Core.bound FP.Core.b64 s c q') % 9223372036854775808 < 9218868437227405312 ∧ (n ≠ 0 → FP.Core.encode FP.Core.b64 (FP.Core.bound FP.Core.b64 s c q') % 9223372036854775808 ≠ 0) := fun c q' c1 c2 c3 => by
        unfold FP.Core.bound
        rw [fp_qmax, if_pos (by omega)]
        show (if c < FP.Core.b64.tails then FP.Core.assemble FP.Core.b64 s 0 c else FP.Core.assemble FP.Core.b64 s ((q' - FP.Core.b64.qmin).toNat + 1) (c - FP.Core.b64.tails)) % _ < _ ∧ (n ≠ 0 → (if c < FP.Core.b64.tails then FP.Core.assemble FP.Core.b64 s 0 c else FP.Core.assemble FP.Core.b64 s ((q' - FP.Core.b64.qmin).toNat + 1) (c - FP.Core.b64.tails)) % _ ≠ 0)
        rw [fp_tails, fp_qmin]
        by_cases y : c < 4503599627370496
        · rw [if_pos y, fp_asm s _ _ (by omega) y]; exact ⟨by omega, fun _ => by omega⟩
        · rw [if_neg y, fp_asm s _ _ (by omega) (by omega)]; exact ⟨by omega, fun _ => by omega⟩
      unfold FP.Core.settle
      rw [fp_p, fp_tails]
      by_cases y : u < 9007199254740992
      · rw [if_pos y]; exact enc _ _ hu y (by omega)
      · rw [if_neg y]; exact enc _ _ (by omega) (by omega) (by omega)
  have := key (decide (i < 0)) i.natAbs h
  exact ⟨this.1, fun z => this.2 (by omega)⟩
/-- bits that stand for a finite number -/
theorem fp_dec {n : Nat} (h : n % 9223372036854775808 < 9218868437227405312) : ∃ s c q, FP.Core.decode FP.Core.b64 n = .fin s c q ∧ (n % 9223372036854775808 ≠ 0 → c ≠ 0) := by
  unfold FP.Core.decode FP.Core.fieldE FP.Core.fieldT
  rw [fp_exps, fp_tails, if_neg (by omega)]
  by_cases z : n / 4503599627370496 % 2048 = 0
  · rw [if_pos z]
    exact ⟨_, _, _, rfl, fun y => by omega⟩
  · rw [if_neg z]
    exact ⟨_, _, _, rfl, fun y => by omega⟩
theorem fp_u64 (n : Nat) : (UInt64.ofNat n).toNat % 9223372036854775808 = n % 9223372036854775808 := by
  have : (UInt64.ofNat n).toNat = n % 2 ^ 64 := UInt64.toNat_ofNat'
  rw [this]
  omega
theorem fp_mask (x : UInt64) : (x &&& 0x7fffffffffffffff).toNat = x.toNat % 9223372036854775808 := by
  rw [UInt64.toNat_and]
  exact Nat.and_two_pow_sub_one_eq_mod x.toNat 63
theorem fp_quo {x y : Int32} (hy : y ≠ 0) : FP.ddiv (FP.i2d x) (FP.i2d y) &&& 0x7fffffffffffffff ≤ 0x7ff0000000000000 := by
  have ix := fp_int x.toInt (by have := ti_lo x; have := ti_hi x; omega)
  have iy := fp_int y.toInt (by have := ti_lo y; have := ti_hi y; omega)
  have hy0 : y.toInt ≠ 0 := fun z => hy (Int32.toInt_inj.mp z)
  have ex : FP.i2d x = UInt64.ofNat (FP.Core.fromInt FP.Core.b64 x.toInt) := rfl
  have ey : FP.i2d y = UInt64.ofNat (FP.Core.fromInt FP.Core.b64 y.toInt) := rfl
  obtain ⟨s, c, q, d1, -⟩ := fp_dec (n := (FP.i2d x).toNat) (by rw [ex, fp_u64]; exact ix.1)
  obtain ⟨t, d, r, d2, d3⟩ := fp_dec (n := (FP.i2d y).toNat) (by rw [ey, fp_u64]; exact iy.1)
  have hd : d ≠ 0 := d3 (by rw [ey, fp_u64]; exact iy.2 hy0)
  rw [UInt64.le_iff_toNat_le, fp_mask]
  have e : FP.ddiv (FP.i2d x) (FP.i2d y) = UInt64.ofNat (FP.Core.encode FP.Core.b64 (FP.Core.quotient FP.Core.b64 (FP.Core.decode FP.Core.b64 (FP.i2d x).toNat) (FP.Core.decode FP.Core.b64 (FP.i2d y).toNat))) := rfl
  rw [e, fp_u64, d1, d2]
  have eq : FP.Core.quotient FP.Core.b64 (.fin s c q) (.fin t d r) = FP.Core.roundRatio FP.Core.b64 (s != t) c d (q - r) := by
    show (if d = 0 then _ else _) = _
    rw [if_neg hd]
  rw [eq]
  exact fp_enc (fp_round _ _ _ _)
end SqFp
/-- a sum over the members of a node's configuration that are up -/
def zSm (S : sqSt) (n : Nat) (f : sqN → Nat) : Nat → Nat
  | 0 => 0
  | j + 1 => zSm S n f j + (if nup (zno S j) = true ∧ zmem S (zno S n) j = true then f (zno S j) else 0)
def zaShare (S : sqSt) (a : Int) : Nat × UInt64 := if ¬ (0 ≤ a ∧ a < 5) then (1, 0) else if zSm S a.toNat (fun N => (nlg N).length) 5 = 0 then (2, 0) else (0, FP.ddiv (FP.i2d (Int32.ofNat (zSm S a.toNat ncm 5))) (FP.i2d (Int32.ofNat (zSm S a.toNat (fun N => (nlg N).length) 5))))
section SqShr
variable {μ μ' μ1 : gM} {n g b k i nc B t t1 s q kk q0 k0 : Nat} {l : List sqE} {a1 a2 a3 a4 : Int32} {e : sqE} {m : sqMs} {S S' : sqSt} {N : sqN} {h : sqH}
theorem zSm_le {f : sqN → Nat} (h : ∀ i, i < 5 → f (zno S i) ≤ B) : ∀ j, j ≤ 5 → zSm S n f j ≤ j * B := by
  intro j
  induction j with
  | zero => intro _; exact Nat.zero_le _
  | succ j ih =>
    intro hj
    have h1 := ih (by omega)
    have h2 := h j (by omega)
    unfold zSm
    rw [Nat.succ_mul]
    split <;> omega
theorem mX6_share_ok (R : RY B μ 0 S) (hB : B < 400000000) (hnc : 0 < nc) : gOk (mX6_share nc a1 μ) (fun q => match q with | .inl p => (zaShare S a1.toInt).1 ≠ 0 ∧ p.1 = exc [eIO, eAR] (zaShare S a1.toInt).1 ∧ p.2 = μ | .inr v => (zaShare S a1.toInt).1 = 0 ∧ v = (zaShare S a1.toInt).2) := by
  unfold mX6_share zaShare
  refine gOk_rep (fun c => ?_) (fun n hn h1 he => gOk_chk (by omega) ?_)
  · rw [if_pos c]
    exact ⟨by decide, rfl, rfl⟩
  · rw [if_neg (show ¬ ¬ (0 ≤ a1.toInt ∧ a1.toInt < 5) from fun z => z (by omega)), he]
    have hb := R.1.2.1 n hn
    have hG := R.G hn
    obtain ⟨c1, c2, c3⟩ := hb.1.2.2.2.2.2.2
    have hcb : ∀ i, i < 5 → ncm (zno S i) ≤ B ∧ (nlg (zno S i)).length ≤ B := fun i hi => by
      have := (R.bd hi).2.1
      have := (R.2.1.2.2.2.2.1 i hi).2.1
      omega
    have l1 := zSm_le (S := S) (n := n) (f := ncm) (B := B) (fun i hi => (hcb i hi).1)
    have l2 := zSm_le (S := S) (n := n) (f := fun N => (nlg N).length) (B := B) (fun i hi => (hcb i hi).2)
    unfold mX1_members
    refine gOk_be rfl ?_
    rw [ti_of c2, ti_of c3, i32_or ⟨_, hG.1⟩ ⟨_, hG.2.2⟩]
    refine gOk_jq2 (fun (x6 x7 : Int32) => x6 = Int32.ofNat (zSm S n ncm 5) ∧ x7 = Int32.ofNat (zSm S n (fun N => (nlg N).length) 5)) (fun x6 x7 hc => ?_) (fun j8 hj8 => ?_)
    · obtain ⟨d1, d2⟩ := hc
      have e7 : x7.toInt = ((zSm S n (fun N => (nlg N).length) 5 : Nat) : Int) := by rw [d2]; exact ti_nat (by have := l2 5 (by omega); omega)
      refine gOk_eq e7 (y := 0) (b := 0) rfl (fun z => gOk_some ?_) (fun z => gOk_chk (fp_quo (fun y => z (by rw [← e7, y]; rfl))) (gOk_some ?_))
      · rw [if_pos (show zSm S n (fun N => (nlg N).length) 5 = 0 by omega)]
        exact ⟨by decide, rfl, rfl⟩
      · rw [if_neg (show ¬ zSm S n (fun N => (nlg N).length) 5 = 0 by omega), ← d1, ← d2]
        exact ⟨rfl, rfl⟩
    · refine gOk_fx3 (fun v (x13 x14 x15 : Int32) => ∃ j : Nat, v = 5 - j ∧ j ≤ 5 ∧ x15.toInt = (j : Int) ∧ x13 = Int32.ofNat (zSm S n ncm j) ∧ x14 = Int32.ofNat (zSm S n (fun N => (nlg N).length) j)) ?_ 1000000 5 _ _ _ (by omega) ⟨0, rfl, Nat.zero_le _, rfl, rfl, rfl⟩
      intro rec v x13 x14 x15 hI ih
      obtain ⟨j, hv, j1, j2, j3, j4⟩ := hI
      subst hv
      refine gOk_le (x := 5) (a := 5) rfl j2 (fun z => ?_) (fun z => ?_)
      · have hj : j = 5 := by omega
        subst hj
        exact hj8 _ _ ⟨j3, j4⟩
      · have hj5 : j < 5 := by omega
        have hbj := R.1.2.1 j hj5
        have r0 := hbj.1.2.1
        have e15 : (x15 + 1).toInt = ((j + 1 : Nat) : Int) := by rw [ti_add j2 (y := 1) (b := 1) rfl (by omega) (by omega)]; omega
        have p5 := ti_inb (n := 5) j2 hj5
        have hbit := i32_bit ⟨(sqF (zg S) (nlg (zno S n))).1 ||| (sqF (zg S) (nlg (zno S n))).2, sqOr_lt hG.1 hG.2.2⟩ ⟨j, hj5⟩
        have ezm : ((sqF (zg S) (nlg (zno S n))).1 ||| (sqF (zg S) (nlg (zno S n))).2).testBit j = zmem S (zno S n) j := sqOr_bit _ _ _
        have skip : ¬ (nup (zno S j) = true ∧ zmem S (zno S n) j = true) → ∀ f : sqN → Nat, zSm S n f (j + 1) = zSm S n f j := fun c f => by
          show zSm S n f j + (if _ then _ else 0) = _
          rw [if_neg c]; rfl
        have add : (nup (zno S j) = true ∧ zmem S (zno S n) j = true) → ∀ f : sqN → Nat, zSm S n f (j + 1) = zSm S n f j + f (zno S j) := fun c f => by
          show zSm S n f j + (if _ then _ else 0) = _
          rw [if_pos c]
        have no : ¬ (nup (zno S j) = true ∧ zmem S (zno S n) j = true) → gOk (rec x13 x14 (x15 + 1)) _ := fun c => ih _ _ _ (5 - (j + 1)) (by omega) ⟨j + 1, rfl, by omega, e15, by rw [skip c]; exact j3, by rw [skip c]; exact j4⟩
        have e15o : x15 = Int32.ofNat j := ti_of j2
        simp only [ti_cl j2]
        refine gOk_chk p5 ?_
        by_cases hu : nup (zno S j) = true
        · rw [hu, if_pos rfl] at r0
          refine gOk_eq r0 (y := 0) (b := 0) rfl (fun y => absurd y (by decide)) (fun _ => ?_)
          refine gOk_if (fun y => gOk_let (gOk_bp (mX1_lastIndex_ok hbj.1.2.2.2.2.2.1 (by have := R.len hj5; omega)) (fun r26 h26 => gOk_let (ih _ _ _ (5 - (j + 1)) (by omega) ⟨j + 1, rfl, by omega, e15, ?_, ?_⟩)))) (fun y => no (fun c => y ?_))
          · have c : nup (zno S j) = true ∧ zmem S (zno S n) j = true := ⟨hu, by rw [← ezm]; exact hbit.mp (by rw [← e15o]; exact y)⟩
            rw [add c, j3, ti_of hbj.1.2.2.2.2.1, Int32.ofNat_add]
          · have c : nup (zno S j) = true ∧ zmem S (zno S n) j = true := ⟨hu, by rw [← ezm]; exact hbit.mp (by rw [← e15o]; exact y)⟩
            rw [add c, j4, ti_of h26, Int32.ofNat_add]
          · have := hbit.mpr (show _ = true by rw [ezm]; exact c.2)
            rw [e15o]; exact this
        · have hu' := hu
          rw [Bool.not_eq_true] at hu'
          rw [hu', if_neg (by decide)] at r0
          exact gOk_eq r0 (y := 0) (b := 0) rfl (fun _ => no (fun c => hu c.1)) (fun y => absurd rfl y)
theorem mX7_share_ok (R : RZ B (μ 1 0) S) (hB : B < 400000000) : gOk (mX7_share a1 μ) (fun q => gF3 μ q.2 ∧ (q.2 0 0 0).toInt = (zaShare S a1.toInt).1 ∧ ((zaShare S a1.toInt).1 = 0 → q.1 = (zaShare S a1.toInt).2) ∧ RZ B (q.2 1 0) S) := by
  unfold mX7_share zaShare
  refine gOk_bp (mX7_isNode_ok μ a1) (fun r2 h2 => gOk_guard (fun q => ?_) (fun q => ?_))
  · have hc : 0 ≤ a1.toInt ∧ a1.toInt < 5 := Classical.byContradiction fun z => q (h2.2.mpr z)
    rw [if_neg (show ¬ ¬ (0 ≤ a1.toInt ∧ a1.toInt < 5) from fun z => z hc)]
    obtain ⟨n, hn, h1, he⟩ := nd_of hc
    rw [he]
    have R1 := R.th (k := 0)
    generalize hμ9 : w3 μ 0 0 0 0 = μ9 at *
    have F9 : gF3 μ μ9 := by rw [← hμ9]; exact gF3.th
    have hcb : ∀ i, i < 5 → ncm (zno S i) ≤ B ∧ (nlg (zno S i)).length ≤ B := fun i hi => by
      have hx := (R.2.1.2.2.2.2.1 i hi).2.1
      obtain ⟨⟨hh, I0⟩, L⟩ := R.2.1
      have := (zCmx_bd I0 hi).1
      omega
    have l1 := zSm_le (S := S) (n := n) (f := ncm) (B := B) (fun i hi => (hcb i hi).1)
    have l2 := zSm_le (S := S) (n := n) (f := fun N => (nlg N).length) (B := B) (fun i hi => (hcb i hi).2)
    refine gOk_bp (mX7_members_ok R1 hn h1) (fun r12 h12 => ?_)
    obtain ⟨c, c1, c2, c3⟩ := h12
    refine gOk_jq2 (fun (x6 x7 : Int32) => x6 = Int32.ofNat (zSm S n ncm 5) ∧ x7 = Int32.ofNat (zSm S n (fun N => (nlg N).length) 5)) (fun x6 x7 hc => ?_) (fun j8 hj8 => ?_)
    · obtain ⟨d1, d2⟩ := hc
      have e7 : x7.toInt = ((zSm S n (fun N => (nlg N).length) 5 : Nat) : Int) := by rw [d2]; exact ti_nat (by have := l2 5 (by omega); omega)
      refine gOk_lee (fun x16 h16 => ?_)
      by_cases z : zSm S n (fun N => (nlg N).length) 5 = 0
      · have ez : x7 = 0 := ti_eq e7 (by rw [z]; rfl)
        rw [if_pos ez] at h16
        rw [if_pos z]
        refine gOk_fails (Or.inr h16) (fun y => absurd (h16.symm.trans y) (by decide)) (fun _ => gOk_if (fun y => absurd y (by decide)) (fun _ => gOk_some ⟨F9.tr gF3.th, ?_, fun y => (by cases y), R1.th (k := 2)⟩))
        show (w3 μ9 0 0 0 2 0 0 0).toInt = 2
        rw [w3_000]; rfl
      · have ez : ¬ x7 = 0 := fun y => z (by rw [y] at e7; have : (0 : Int32).toInt = 0 := rfl; omega)
        rw [if_neg ez] at h16
        rw [if_neg z]
        refine gOk_fails (Or.inl h16) (fun _ => gOk_if (fun _ => gOk_chk (fp_quo ez) (gOk_some ⟨F9.tr gF3.th, ?_, fun _ => ?_, R1.th (k := 0)⟩)) (fun y => absurd rfl y)) (fun y => absurd (h16.symm.trans y) (by decide))
        · show (w3 μ9 0 0 0 0 0 0 0).toInt = 0
          rw [w3_000]; rfl
        · show FP.ddiv (FP.i2d x6) (FP.i2d x7) = _
          rw [d1, d2]
    · refine gOk_fx3 (fun v (x13 x14 x15 : Int32) => ∃ j : Nat, v = 5 - j ∧ j ≤ 5 ∧ x15.toInt = (j : Int) ∧ x13 = Int32.ofNat (zSm S n ncm j) ∧ x14 = Int32.ofNat (zSm S n (fun N => (nlg N).length) j)) ?_ 1000000 5 _ _ _ (by omega) ⟨0, rfl, Nat.zero_le _, rfl, rfl, rfl⟩
      intro rec v x13 x14 x15 hI ih
      obtain ⟨j, hv, j1, j2, j3, j4⟩ := hI
      subst hv
      refine gOk_le (x := 5) (a := 5) rfl j2 (fun z => ?_) (fun z => ?_)
      · have hj : j = 5 := by omega
        subst hj
        exact hj8 _ _ ⟨j3, j4⟩
      · have hj5 : j < 5 := by omega
        have hRj := R1.1.2.1 j hj5
        have r0 := hRj.1.1
        have r4 := hRj.1.2.2.2.1
        have e15 : (x15 + 1).toInt = ((j + 1 : Nat) : Int) := by rw [ti_add j2 (y := 1) (b := 1) rfl (by omega) (by omega)]; omega
        have skip : ¬ (nup (zno S j) = true ∧ zmem S (zno S n) j = true) → ∀ f : sqN → Nat, zSm S n f (j + 1) = zSm S n f j := fun c f => by
          show zSm S n f j + (if _ then _ else 0) = _
          rw [if_neg c]; rfl
        have add : (nup (zno S j) = true ∧ zmem S (zno S n) j = true) → ∀ f : sqN → Nat, zSm S n f (j + 1) = zSm S n f j + f (zno S j) := fun c f => by
          show zSm S n f j + (if _ then _ else 0) = _
          rw [if_pos c]
        have no : ¬ (nup (zno S j) = true ∧ zmem S (zno S n) j = true) → gOk (rec (x13 + 0) (x14 + 0) (x15 + 1)) _ := fun c => ih _ _ _ (5 - (j + 1)) (by omega) ⟨j + 1, rfl, by omega, e15, by rw [skip c, Int32.add_zero]; exact j3, by rw [skip c, Int32.add_zero]; exact j4⟩
        refine gOk_bp (mX7_has_ok μ9 c1 hj5 c2 j2) (fun r35 h35 => gOk_jq (γ := Int32) (fun x36 => x36 = 0 ∧ ¬ (nup (zno S j) = true ∧ zmem S (zno S n) j = true)) (fun x36 hc => ?_) (fun j37 hj37 => gOk_jq (γ := Unit) (fun _ => ¬ (nup (zno S j) = true ∧ zmem S (zno S n) j = true)) (fun _ hc => hj37 0 ⟨rfl, hc⟩) (fun j56 hj56 => ?_)))
        · obtain ⟨hc1, hc2⟩ := hc
          refine gOk_jon (gOk_if (fun _ => gOk_let (gOk_jon (gOk_if (fun _ => gOk_let (no hc2)) (fun y => absurd hc1 y)))) (fun y => absurd hc1 y))
        · by_cases hm : zmem S (zno S n) j = true
          · rw [if_pos (by rw [c3]; exact hm)] at h35
            refine gOk_if (fun y => absurd (h35.symm.trans y) (by decide)) (fun _ => ?_)
            refine gOk_be (mX7_of_ok μ9 j2 (k := 0) rfl hj5 (by omega)) (gOk_lee (fun x61 h61 => ?_))
            by_cases hu : nup (zno S j) = true
            · rw [hu, if_pos rfl] at r0
              rw [if_pos (show rN (μ9 1 0) j 0 = 1 from ti_eq r0 rfl)] at h61
              refine gOk_jon (gOk_if (fun y => absurd (h61.symm.trans y) (by decide)) (fun _ => gOk_be (mX7_of_ok μ9 j2 (k := 4) rfl hj5 (by omega)) (gOk_let (gOk_jon (gOk_if (fun y => absurd (h61.symm.trans y) (by decide)) (fun _ => gOk_bp (mX7_last_ok R1.1 R1.2.1.2 R1.2.2 hj5 j2) (fun r79 h79 => gOk_let (ih _ _ _ (5 - (j + 1)) (by omega) ⟨j + 1, rfl, by omega, e15, ?_, ?_⟩))))))))
              · rw [add ⟨hu, hm⟩, j3, ti_of r4, Int32.ofNat_add]
              · rw [add ⟨hu, hm⟩, j4, ti_of h79, Int32.ofNat_add]
            · have hu' := hu
              rw [Bool.not_eq_true] at hu'
              rw [hu', if_neg (by decide)] at r0
              rw [if_neg (show ¬ rN (μ9 1 0) j 0 = 1 from fun y => by rw [y] at r0; exact absurd r0 (by decide))] at h61
              refine gOk_jon (gOk_if (fun _ => gOk_let (gOk_jon (gOk_if (fun _ => gOk_let (no (fun y => hu y.1))) (fun y => absurd h61 y)))) (fun y => absurd h61 y))
          · rw [if_neg (by rw [c3]; exact hm)] at h35
            exact gOk_if (fun _ => hj56 () (fun y => hm y.2)) (fun y => absurd h35 y)
  · have hc := h2.2.mp q
    rw [if_pos hc]
    refine gOk_some ⟨gF3.th, ?_, fun y => (by cases y), R.th (k := 1)⟩
    show (w3 μ 0 0 0 1 0 0 0).toInt = 1
    rw [w3_000]; rfl
end SqShr
