/-! Scripts: the reference reads a command. -/
section SqScr2
variable {μ μ' : gM} {β : Nat → Int32} {len p q k v w m n e : Nat} {a1 a2 a3 : Int32}
theorem zWn_rg : ∀ k, zWn β p m k = -1 ∨ (0 ≤ zWn β p m k ∧ zWn β p m k < k) := by
  intro k
  induction k with
  | zero => exact Or.inl rfl
  | succ k ih =>
    unfold zWn
    by_cases z : zMt β k p m = true
    · rw [if_pos z]; exact Or.inr ⟨by omega, by omega⟩
    · rw [if_neg z]
      rcases ih with y | y
      · exact Or.inl y
      · exact Or.inr ⟨y.1, by omega⟩
theorem zWe_stop {k q : Nat} (h : zSee β len q 97 122 = false) : zWe β len k q = q := by
  cases k with
  | zero => rfl
  | succ k => unfold zWe; rw [if_neg (by rw [h]; decide)]
/-- the reading in steps, each on a flag: no pair of numbers -/
theorem zC_one {z1 z2 z3 : Bool} {p1 p2 p3 : Nat} (h1 : z1 = zSee β len e 32 32) (q1 : p1 = if z1 = true then e + 1 else e) (h2 : z2 = (z1 && zSee β len p1 48 57)) (q2 : p2 = if z2 = true then (zNm β len 3 0 p1).2 else p1) (h3 : z3 = (z2 && zSee β len p2 59 59)) (q3 : p3 = if z3 = true then p2 + 1 else p2) (hw : ¬ (3 ≤ w ∧ w ≤ 5)) {R : Bool × Nat × Nat × Nat × Nat} (hR : R = if zSee β len e 32 32 = true then zC2 β len w (e + 1) else (false, e, 0, 0, 0)) : R.1 = z3 ∧ R.2.1 = p3 ∧ (z3 = true → R.2.2.1 = w ∧ R.2.2.2.1 = if z2 = true then (zNm β len 3 0 p1).1 else 0) := by
  rw [← h1] at hR
  cases z1 with
  | false =>
    have q1 : p1 = e := q1
    have h2 : z2 = false := h2
    subst q1 h2
    have q2 : p2 = p1 := q2
    have h3 : z3 = false := h3
    subst q2 h3
    have q3 : p3 = p2 := q3
    subst q3
    have hR : R = (false, p3, 0, 0, 0) := hR
    rw [hR]
    exact ⟨rfl, rfl, fun z => by cases z⟩
  | true =>
    have q1 : p1 = e + 1 := q1
    have hR : R = zC2 β len w (e + 1) := hR
    rw [← q1] at hR
    rw [Bool.true_and] at h2
    unfold zC2 at hR
    rw [← h2] at hR
    cases z2 with
    | false =>
      have q2 : p2 = p1 := q2
      have h3 : z3 = false := h3
      subst q2 h3
      have q3 : p3 = p2 := q3
      subst q3
      have hR : R = (false, p3, 0, 0, 0) := hR
      rw [hR]
      exact ⟨rfl, rfl, fun z => by cases z⟩
    | true =>
      have q2 : p2 = (zNm β len 3 0 p1).2 := q2
      rw [Bool.true_and] at h3
      rw [if_pos rfl, if_neg hw, ← q2] at hR
      unfold zC3 at hR
      rw [← h3] at hR
      cases z3 with
      | false =>
        have q3 : p3 = p2 := q3
        have hR : R = (false, p2, 0, 0, 0) := hR
        rw [hR, q3]
        exact ⟨rfl, rfl, fun z => by cases z⟩
      | true =>
        have q3 : p3 = p2 + 1 := q3
        have hR : R = (true, p2 + 1, w, (zNm β len 3 0 p1).1, 0) := hR
        rw [hR, q3]
        exact ⟨rfl, rfl, fun _ => ⟨rfl, rfl⟩⟩
theorem zC_two {z1 z2 z3 z4 z5 : Bool} {p1 p2 p3 p4 p5 : Nat} (h1 : z1 = zSee β len e 32 32) (q1 : p1 = if z1 = true then e + 1 else e) (h2 : z2 = (z1 && zSee β len p1 48 57)) (q2 : p2 = if z2 = true then (zNm β len 3 0 p1).2 else p1) (h3 : z3 = (z2 && zSee β len p2 44 44)) (q3 : p3 = if z3 = true then p2 + 1 else p2) (h4 : z4 = (z3 && zSee β len p3 48 57)) (q4 : p4 = if z4 = true then (zNm β len 3 0 p3).2 else p3) (h5 : z5 = (z4 && zSee β len p4 59 59)) (q5 : p5 = if z5 = true then p4 + 1 else p4) (hw : 3 ≤ w ∧ w ≤ 5) {R : Bool × Nat × Nat × Nat × Nat} (hR : R = if zSee β len e 32 32 = true then zC2 β len w (e + 1) else (false, e, 0, 0, 0)) : R.1 = z5 ∧ R.2.1 = p5 ∧ (z5 = true → R.2.2.1 = w ∧ (R.2.2.2.1 = if z2 = true then (zNm β len 3 0 p1).1 else 0) ∧ (R.2.2.2.2 = if z4 = true then (zNm β len 3 0 p3).1 else 0)) := by
  have bad : ∀ {x : Nat}, R = (false, x, 0, 0, 0) → z5 = false → p5 = x → R.1 = z5 ∧ R.2.1 = p5 ∧ (z5 = true → R.2.2.1 = w ∧ (R.2.2.2.1 = if z2 = true then (zNm β len 3 0 p1).1 else 0) ∧ (R.2.2.2.2 = if z4 = true then (zNm β len 3 0 p3).1 else 0)) := fun {x} a b c => by
    rw [a, b, c]
    exact ⟨rfl, rfl, fun z => by cases z⟩
  rw [← h1] at hR
  cases z1 with
  | false =>
    have h2 : z2 = false := h2
    rw [h2] at q2 h3
    have h3 : z3 = false := h3
    rw [h3] at q3 h4
    have h4 : z4 = false := h4
    rw [h4] at q4 h5
    have h5 : z5 = false := h5
    rw [h5] at q5
    have q1 : p1 = e := q1
    have q2 : p2 = p1 := q2
    have q3 : p3 = p2 := q3
    have q4 : p4 = p3 := q4
    have q5 : p5 = p4 := q5
    exact bad (x := e) hR h5 (by omega)
  | true =>
    have q1 : p1 = e + 1 := q1
    have hR : R = zC2 β len w (e + 1) := hR
    rw [← q1] at hR
    rw [Bool.true_and] at h2
    unfold zC2 at hR
    rw [← h2] at hR
    cases z2 with
    | false =>
      have h3 : z3 = false := h3
      rw [h3] at q3 h4
      have h4 : z4 = false := h4
      rw [h4] at q4 h5
      have h5 : z5 = false := h5
      rw [h5] at q5
      have q2 : p2 = p1 := q2
      have q3 : p3 = p2 := q3
      have q4 : p4 = p3 := q4
      have q5 : p5 = p4 := q5
      exact bad (x := p1) hR h5 (by omega)
    | true =>
      have q2 : p2 = (zNm β len 3 0 p1).2 := q2
      rw [Bool.true_and] at h3
      rw [if_pos rfl, if_pos hw, ← q2, ← h3] at hR
      cases z3 with
      | false =>
        have h4 : z4 = false := h4
        rw [h4] at q4 h5
        have h5 : z5 = false := h5
        rw [h5] at q5
        have q3 : p3 = p2 := q3
        have q4 : p4 = p3 := q4
        have q5 : p5 = p4 := q5
        exact bad (x := p2) hR h5 (by omega)
      | true =>
        have q3 : p3 = p2 + 1 := q3
        rw [Bool.true_and] at h4
        rw [if_pos rfl, ← q3, ← h4] at hR
        cases z4 with
        | false =>
          have h5 : z5 = false := h5
          rw [h5] at q5
          have q4 : p4 = p3 := q4
          have q5 : p5 = p4 := q5
          exact bad (x := p3) hR h5 (by omega)
        | true =>
          have q4 : p4 = (zNm β len 3 0 p3).2 := q4
          rw [Bool.true_and] at h5
          rw [if_pos rfl, ← q4] at hR
          unfold zC3 at hR
          rw [← h5] at hR
          cases z5 with
          | false =>
            have q5 : p5 = p4 := q5
            exact bad (x := p4) hR rfl q5
          | true =>
            have q5 : p5 = p4 + 1 := q5
            have hR : R = (true, p4 + 1, w, (zNm β len 3 0 p1).1, (zNm β len 3 0 p3).1) := hR
            rw [hR, q5]
            exact ⟨rfl, rfl, fun _ => ⟨rfl, rfl, rfl⟩⟩
/-- what a command that was read leaves behind -/
def pcPost (β : Nat → Int32) (len p : Nat) (μ μ' : gM) : Prop :=
  gFr scP μ μ' ∧ (μ' 0 0 7).toInt = ((zCmd β len p).2.1 : Int) ∧ μ' 0 0 11 = (if (zCmd β len p).1 = true then 0 else 1) ∧ ((zCmd β len p).1 = true → (μ' 0 0 8).toInt = ((zCmd β len p).2.2.1 : Int) ∧ (μ' 0 0 9).toInt = ((zCmd β len p).2.2.2.1 : Int) ∧ (3 ≤ (zCmd β len p).2.2.1 ∧ (zCmd β len p).2.2.1 ≤ 5 → (μ' 0 0 10).toInt = ((zCmd β len p).2.2.2.2 : Int)))
theorem zCmd_eq (hn : 0 ≤ zWn β p (zWe β len 80 p - p) 7) : zCmd β len p = if zSee β len (zWe β len 80 p) 32 32 = true then zC2 β len (zWn β p (zWe β len 80 p - p) 7).toNat (zWe β len 80 p + 1) else (false, zWe β len 80 p, 0, 0, 0) := by
  unfold zCmd
  rw [if_neg (by omega)]
theorem mX7_passCommand_ok (h : BuR μ β len) (hw : μ 0 0 11 = 0) (hp : (μ 0 0 7).toInt = (p : Int)) (hp8 : p ≤ len) : gOk (mX7_passCommand μ) (pcPost β len p μ) := by
  have hl80 := h.2.1
  unfold mX7_passCommand
  refine gOk_lee (fun x1 hx1 => ?_)
  have e1 : x1.toInt = (p : Int) := by rw [hx1]; exact hp
  obtain ⟨ge1, ge2, ge3⟩ := zWe_ge (β := β) (len := len) 80 p
  have ge2 := ge2 hp8
  refine gOk_jq (γ := gM) (fun μ5 => gFr (fun f i j => f = 0 ∧ i = 0 ∧ j = 7) μ μ5 ∧ (μ5 0 0 7).toInt = (zWe β len 80 p : Int)) (fun μ5 hc => ?_) (fun j6 hj6 => ?_)
  · obtain ⟨F5, p5⟩ := hc
    refine gOk_lee (fun μ7 h7 => ?_)
    have F7 : gFr (fun f i j => f = 0 ∧ i = 0 ∧ (j = 7 ∨ j = 8)) μ μ7 := (F5.up (fun f i j z => ⟨z.1, z.2.1, by omega⟩)).tr (by rw [h7]; exact gFr.w ⟨rfl, rfl, by omega⟩)
    have p7 : (μ7 0 0 7).toInt = (zWe β len 80 p : Int) := by rw [h7, w3_o _ _ (by omega)]; exact p5
    have b7 : BuR μ7 β len := h.fr (F7.up (fun f i j z => ⟨z.1, z.2.1, by omega⟩))
    have hcmd := zCmd_eq (β := β) (len := len) (p := p)
    have hbad : zWn β p (zWe β len 80 p - p) 7 < 0 → zCmd β len p = (false, p, 0, 0, 0) := fun z => by unfold zCmd; rw [if_pos z]
    generalize hPC : pcPost β len p μ = PC
    unfold pcPost at hPC
    generalize hWn : zWn β p (zWe β len 80 p - p) 7 = Wn at *
    have hrg : Wn = -1 ∨ (0 ≤ Wn ∧ Wn < 7) := by rw [← hWn]; exact zWn_rg 7
    generalize hE : zWe β len 80 p = E at *
    refine gOk_jq (γ := gM) (fun μ9 => gFr (fun f i j => f = 0 ∧ i = 0 ∧ (j = 7 ∨ j = 8)) μ μ9 ∧ (μ9 0 0 7).toInt = (E : Int) ∧ (μ9 0 0 8).toInt = Wn) (fun μ9 hc => ?_) (fun j10 hj10 => ?_)
    · obtain ⟨F9, p9, w9⟩ := hc
      have b9 : BuR μ9 β len := h.fr (F9.up (fun f i j z => ⟨z.1, z.2.1, by omega⟩))
      have ok9 : μ9 0 0 11 = if true = true then 0 else 1 := by rw [F9 0 0 11 (by omega)]; exact hw
      refine gOk_le (x := 0) (a := 0) rfl w9 (fun z => ?_) (fun z => ?_)
      · have hW := hcmd z
        have hn7 : Wn.toNat < 7 := by omega
        have eW : Wn = ((Wn.toNat : Nat) : Int) := by omega
        generalize hw2 : Wn.toNat = w at *
        refine gOk_bp (mX7_must_ok b9 ok9 p9 (by omega) (c := 32) rfl) (fun μ13 h13 => ?_)
        obtain ⟨F13, p13, k13⟩ := h13
        rw [Bool.true_and] at p13 k13
        have b13 := b9.fr (F13.up (fun f i j z => ⟨z.1, z.2.1, by omega⟩))
        generalize hz1 : zSee β len E 32 32 = z1 at *
        generalize hp1 : (if z1 = true then E + 1 else E) = p1 at *
        have hp1b : p1 ≤ E + 1 := by rw [← hp1]; split <;> omega
        refine gOk_bd (mX7_passNumber_ok b13 k13 p13 (by omega)) (fun r15 μ16 hq => ?_)
        obtain ⟨F16, p16, k16, v16⟩ := hq
        have F16 : gFr (fun f i j => f = 0 ∧ i = 0 ∧ (j = 7 ∨ j = 11)) μ13 μ16 := F16
        have p16 : (μ16 0 0 7).toInt = _ := p16
        have k16 : μ16 0 0 11 = _ := k16
        have v16 : r15.toInt = _ := v16
        have hnm := (zNm_ge (β := β) (len := len) 3 0 p1).2.1
        generalize hz2 : (z1 && zSee β len p1 48 57) = z2 at *
        generalize hp2 : (if z2 = true then (zNm β len 3 0 p1).2 else p1) = p2 at *
        have hp2b : p2 ≤ E + 4 := by rw [← hp2]; split <;> omega
        refine gOk_lee (fun μ17 h17 => ?_)
        have F17 : gFr scP μ μ17 := (F9.up (fun f i j z => ⟨z.1, z.2.1, by omega⟩)).tr ((F13.up (fun f i j z => ⟨z.1, z.2.1, by omega⟩)).tr ((F16.up (fun f i j z => ⟨z.1, z.2.1, by omega⟩)).tr (by rw [h17]; exact gFr.w ⟨rfl, rfl, by omega⟩)))
        have w17 : (μ17 0 0 8).toInt = (w : Int) := by rw [h17, w3_o _ _ (by omega), F16 0 0 8 (by omega), F13 0 0 8 (by omega), w9]; exact eW
        have f17 : μ17 0 0 9 = r15 := by rw [h17, w3_at]
        have p17 : (μ17 0 0 7).toInt = (p2 : Int) := by rw [h17, w3_o _ _ (by omega)]; exact p16
        have k17 : μ17 0 0 11 = if z2 = true then 0 else 1 := by rw [h17, w3_o _ _ (by omega)]; exact k16
        have b17 := h.fr F17
        have one : ¬ (3 ≤ w ∧ w ≤ 5) → gOk (gBp (mX7_must 59 μ17) fun μ22 => some μ22) PC := fun hw35 => by
          refine gOk_bp (mX7_must_ok b17 k17 p17 (by omega) (c := 59) rfl) (fun μ22 h22 => gOk_some ?_)
          obtain ⟨F22, p22, k22⟩ := h22
          obtain ⟨R1, R2, R3⟩ := zC_one (e := E) (z1 := z1) (z2 := z2) (p1 := p1) (p2 := p2) hz1.symm hp1.symm hz2.symm hp2.symm rfl rfl hw35 (hW.trans (by rw [hz1]))
          rw [← hPC]
          refine ⟨F17.tr (F22.up (fun f i j z => ⟨z.1, z.2.1, by omega⟩)), by rw [R2]; exact p22, by rw [R1]; exact k22, fun z => ?_⟩
          rw [R1] at z
          obtain ⟨R4, R5⟩ := R3 z
          rw [R4, R5]
          refine ⟨by rw [F22 0 0 8 (by omega)]; exact w17, by rw [F22 0 0 9 (by omega), f17]; exact v16, fun y => absurd y hw35⟩
        refine gOk_jq (γ := gM) (fun μ19 => (¬ (3 ≤ w ∧ w ≤ 5) ∧ μ19 = μ17) ∨ ((3 ≤ w ∧ w ≤ 5) ∧ gFr scP μ μ19 ∧ (μ19 0 0 8).toInt = (w : Int) ∧ μ19 0 0 9 = r15 ∧ ∃ (z3 z4 : Bool) (p3 p4 : Nat), z3 = (z2 && zSee β len p2 44 44) ∧ (p3 = if z3 = true then p2 + 1 else p2) ∧ z4 = (z3 && zSee β len p3 48 57) ∧ (p4 = if z4 = true then (zNm β len 3 0 p3).2 else p3) ∧ p4 ≤ E + 8 ∧ (μ19 0 0 7).toInt = (p4 : Int) ∧ (μ19 0 0 11 = if z4 = true then 0 else 1) ∧ (μ19 0 0 10).toInt = ((if z4 = true then (zNm β len 3 0 p3).1 else 0 : Nat) : Int))) (fun μ19 hc => ?_) (fun j20 hj20 => ?_)
        · rcases hc with ⟨c1, c2⟩ | ⟨c1, c2, c3, c4, z3, z4, p3, p4, d1, d2, d3, d4, d5, d6, d7, d8⟩
          · rw [c2]; exact one c1
          · refine gOk_bp (mX7_must_ok (h.fr c2) d7 d6 (by omega) (c := 59) rfl) (fun μ22 h22 => gOk_some ?_)
            obtain ⟨F22, p22, k22⟩ := h22
            obtain ⟨R1, R2, R3⟩ := zC_two (e := E) (z1 := z1) (z2 := z2) (p1 := p1) (p2 := p2) hz1.symm hp1.symm hz2.symm hp2.symm d1 d2 d3 d4 rfl rfl c1 (hW.trans (by rw [hz1]))
            rw [← hPC]
            refine ⟨c2.tr (F22.up (fun f i j z => ⟨z.1, z.2.1, by omega⟩)), by rw [R2]; exact p22, by rw [R1]; exact k22, fun z => ?_⟩
            rw [R1] at z
            obtain ⟨R4, R5, R6⟩ := R3 z
            rw [R4, R5, R6]
            exact ⟨by rw [F22 0 0 8 (by omega)]; exact c3, by rw [F22 0 0 9 (by omega), c4]; exact v16, fun _ => by rw [F22 0 0 10 (by omega)]; exact d8⟩
        · refine gOk_lt w17 (y := 3) (b := 3) rfl (fun y => hj20 _ (Or.inl ⟨by omega, rfl⟩)) (fun y => gOk_lt (x := 5) (a := 5) rfl w17 (fun x => hj20 _ (Or.inl ⟨by omega, rfl⟩)) (fun x => ?_))
          refine gOk_bp (mX7_must_ok b17 k17 p17 (by omega) (c := 44) rfl) (fun μ26 h26 => ?_)
          obtain ⟨F26, p26, k26⟩ := h26
          have b26 := b17.fr (F26.up (fun f i j z => ⟨z.1, z.2.1, by omega⟩))
          generalize hz3 : (z2 && zSee β len p2 44 44) = z3 at *
          generalize hp3 : (if z3 = true then p2 + 1 else p2) = p3 at *
          have hp3b : p3 ≤ E + 5 := by rw [← hp3]; split <;> omega
          refine gOk_bd (mX7_passNumber_ok b26 k26 p26 (by omega)) (fun r28 μ29 hq => ?_)
          obtain ⟨F29, p29, k29, v29⟩ := hq
          have F29 : gFr (fun f i j => f = 0 ∧ i = 0 ∧ (j = 7 ∨ j = 11)) μ26 μ29 := F29
          have p29 : (μ29 0 0 7).toInt = _ := p29
          have k29 : μ29 0 0 11 = _ := k29
          have v29 : r28.toInt = _ := v29
          have hnm3 := (zNm_ge (β := β) (len := len) 3 0 p3).2.1
          refine gOk_lee (fun μ30 h30 => hj20 _ (Or.inr ⟨⟨by omega, by omega⟩, ?_, ?_, ?_, z3, _, p3, _, rfl, hp3.symm, rfl, rfl, ?_, ?_, ?_, ?_⟩))
          · rw [h30]
            exact F17.tr ((F26.up (fun f i j z => ⟨z.1, z.2.1, by omega⟩)).tr ((F29.up (fun f i j z => ⟨z.1, z.2.1, by omega⟩)).tr (gFr.w ⟨rfl, rfl, by omega⟩)))
          · rw [h30, w3_o _ _ (by omega), F29 0 0 8 (by omega), F26 0 0 8 (by omega)]; exact w17
          · rw [h30, w3_o _ _ (by omega), F29 0 0 9 (by omega), F26 0 0 9 (by omega)]; exact f17
          · split <;> omega
          · rw [h30, w3_o _ _ (by omega)]; exact p29
          · rw [h30, w3_o _ _ (by omega)]; exact k29
          · rw [h30, w3_at]; exact v29
      · have hb := hbad z
        refine gOk_lee (fun μ32 h32 => gOk_let (gOk_some ?_))
        rw [← hPC, hb]
        refine ⟨?_, by rw [w3_at]; exact e1, ?_, fun y => by cases y⟩
        · rw [h32]
          exact (F9.up (fun f i j z => ⟨z.1, z.2.1, by omega⟩)).tr ((gFr.w ⟨rfl, rfl, by omega⟩).tr (gFr.w ⟨rfl, rfl, by omega⟩))
        · rw [w3_o _ _ (by omega), h32, w3_at]; rfl
    · refine gOk_fx2 (fun v (x36 : Int32) (μ37 : gM) => ∃ j : Nat, v = 7 - j ∧ j ≤ 7 ∧ x36.toInt = (j : Int) ∧ gFr (fun f i j => f = 0 ∧ i = 0 ∧ (j = 7 ∨ j = 8)) μ μ37 ∧ (μ37 0 0 7).toInt = (E : Int) ∧ (μ37 0 0 8).toInt = zWn β p (E - p) j) ?_ 1000000 7 _ _ (by omega) ⟨0, rfl, Nat.zero_le _, rfl, F7, p7, by rw [h7, w3_at]; exact ti_m1⟩
      intro rec v x36 μ37 hI ih
      obtain ⟨j, hv, j1, j2, j3, j4, j5⟩ := hI
      subst hv
      refine gOk_le (x := 7) (a := 7) rfl j2 (fun z => hj10 _ ⟨j3, j4, ?_⟩) (fun z => ?_)
      · have hj : j = 7 := by omega
        subst hj
        rw [j5, hWn]
      · have b37 : BuR μ37 β len := h.fr (j3.up (fun f i j z => ⟨z.1, z.2.1, by omega⟩))
        have em : ((μ37 0 0 7) - x1).toInt = ((E - p : Nat) : Int) := by rw [ti_sub j4 e1 (by omega) (by omega)]; omega
        have ej : (x36 + 1).toInt = ((j + 1 : Nat) : Int) := by rw [ti_add j2 (y := 1) (b := 1) rfl (by omega) (by omega)]; omega
        refine gOk_bp (mX7_isWord_ok b37 (w := j) (by omega) j2 e1 em (by omega)) (fun r41 h41 => gOk_lee (fun x42 h42 => gOk_let (ih _ _ (7 - (j + 1)) (by omega) ⟨j + 1, rfl, by omega, ej, j3.tr (gFr.w ⟨rfl, rfl, by omega⟩), by rw [w3_o _ _ (by omega)]; exact j4, ?_⟩)))
        rw [w3_at, h42, h41]
        unfold zWn
        by_cases y : zMt β j p (E - p) = true
        · rw [if_pos y, if_pos y, if_neg (by decide)]; exact j2
        · rw [if_neg y, if_neg y, if_pos rfl]; exact j5
  · refine gOk_fx1 (fun v (μ48 : gM) => ∃ (k q : Nat), v = len - q ∧ len ≤ q + k ∧ q ≤ len ∧ zWe β len k q = zWe β len 80 p ∧ gFr (fun f i j => f = 0 ∧ i = 0 ∧ j = 7) μ μ48 ∧ (μ48 0 0 7).toInt = (q : Int)) ?_ 1000000 (len - p) _ (by omega) ⟨80, p, rfl, by omega, hp8, rfl, gFr.rf, hp⟩
    intro rec v μ48 hI ih
    obtain ⟨k, q, hv, k1, k2, k3, k4, k5⟩ := hI
    subst hv
    have b48 : BuR μ48 β len := h.fr (k4.up (fun f i j z => ⟨z.1, z.2.1, by omega⟩))
    have w48 : μ48 0 0 11 = if true = true then 0 else 1 := by rw [k4 0 0 11 (by omega)]; exact hw
    refine gOk_bp (mX7_sees_ok b48 w48 k5 (a1 := 97) (a2 := 122) (lo := 97) (hi := 122) rfl rfl) (fun r51 h51 => ?_)
    rw [Bool.true_and] at h51
    by_cases z : zSee β len q 97 122 = true
    · rw [if_pos z] at h51
      have hz := zSee_lt z
      obtain ⟨k', rfl⟩ : ∃ k', k = k' + 1 := ⟨k - 1, by omega⟩
      unfold zWe at k3
      rw [if_pos z] at k3
      refine gOk_if (fun y => absurd (h51.symm.trans y) (by decide)) (fun _ => gOk_let (ih _ (len - (q + 1)) (by omega) ⟨k', q + 1, rfl, by omega, by omega, ?_, k4.tr (gFr.w ⟨rfl, rfl, rfl⟩), by rw [w3_at, ti_add k5 (y := 1) (b := 1) rfl (by omega) (by omega)]; omega⟩))
      rw [k3]
      unfold zWe
      rfl
    · rw [if_neg z] at h51
      refine gOk_if (fun _ => hj6 _ ⟨k4, ?_⟩) (fun y => absurd h51 y)
      rw [← k3, zWe_stop (Bool.eq_false_iff.mpr z)]
      exact k5
end SqScr2
