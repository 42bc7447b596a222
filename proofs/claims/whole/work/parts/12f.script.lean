/-! Scripts: the commands and what they do; the reference performs them. -/
def zPs (β : Nat → Int32) (len : Nat) : Nat → Nat → List (Nat × Nat × Nat) × Bool × Nat
  | 0, p => ([], true, p)
  | k + 1, p => if (zCmd β len p).1 = true then (if (zCmd β len p).2.1 < len then ((zCmd β len p).2.2 :: (zPs β len k (zCmd β len p).2.1).1, (zPs β len k (zCmd β len p).2.1).2) else ([(zCmd β len p).2.2], true, (zCmd β len p).2.1)) else ([], false, (zCmd β len p).2.1)
def zDo (c : Nat × Nat × Nat) (S : sqSt) : sqRs :=
  if c.1 = 0 then zaTick S c.2.1 else if c.1 = 1 then zaCrash S c.2.1 else if c.1 = 2 then zaBack S c.2.1 else if c.1 = 3 then zaLink S c.2.1 c.2.2 true else if c.1 = 4 then zaLink S c.2.1 c.2.2 false else if c.1 = 5 then zaSub S c.2.1 (Int32.ofNat c.2.2) else zaPack S c.2.1
def zRun : List (Nat × Nat × Nat) → sqSt → Bool × sqSt
  | [], S => (true, S)
  | c :: cs, S => if (zDo c S).1 = 0 then zRun cs (zDo c S).2.2 else (false, (zDo c S).2.2)
def zaPerf (β : Nat → Int32) (len : Nat) (S : sqSt) : sqRs :=
  if (zPs β len 80 0).2.1 = true then (if (zRun (zPs β len 80 0).1 S).1 = true then (0, ((zPs β len 80 0).1.length : Int), (zRun (zPs β len 80 0).1 S).2) else (1, 0, (zRun (zPs β len 80 0).1 S).2)) else (0, -100 - ((zPs β len 80 0).2.2 : Int), S)
section SqScr3
variable {μ μ' : gM} {β : Nat → Int32} {len p q k v w m n e B : Nat} {a1 a2 a3 : Int32} {S : sqSt}
theorem zTb_word : ∀ (w : Fin 7) (k : Fin 3), zTb (7 * w.val + k.val) ≠ 32 := by decide +kernel
theorem zWn_mt : ∀ k, 0 ≤ zWn β p m k → zMt β (zWn β p m k).toNat p m = true := by
  intro k
  induction k with
  | zero => intro h; exact absurd h (by show ¬ (0 : Int) ≤ -1; omega)
  | succ k ih =>
    intro h
    unfold zWn at h ⊢
    by_cases z : zMt β k p m = true
    · rw [if_pos z]; exact z
    · rw [if_neg z] at h ⊢
      exact ih h
theorem zC3_ok {f s r : Nat} (h : (zC3 β len w f s r).1 = true) : (zC3 β len w f s r).2 = (r + 1, w, f, s) ∧ r < len := by
  unfold zC3 at h ⊢
  by_cases z : zSee β len r 59 59 = true
  · rw [if_pos z]; exact ⟨rfl, (zSee_lt z).1⟩
  · rw [if_neg z] at h; cases h
theorem zC2_ok (h : (zC2 β len w q).1 = true) : q + 2 ≤ (zC2 β len w q).2.1 ∧ (zC2 β len w q).2.1 ≤ len ∧ (zC2 β len w q).2.2.1 = w ∧ (zC2 β len w q).2.2.2.1 ≤ 999 ∧ (zC2 β len w q).2.2.2.2 ≤ 999 := by
  have n9 := fun q => zNm_999 (β := β) (len := len) q
  unfold zC2 at h ⊢
  by_cases z : zSee β len q 48 57 = true
  · rw [if_pos z] at h ⊢
    have g1 : q + 1 ≤ (zNm β len 3 0 q).2 := by
      unfold zNm
      rw [if_pos z]
      exact (zNm_ge 2 _ (q + 1)).1
    by_cases y : 3 ≤ w ∧ w ≤ 5
    · rw [if_pos y] at h ⊢
      by_cases x : zSee β len (zNm β len 3 0 q).2 44 44 = true
      · rw [if_pos x] at h ⊢
        by_cases u : zSee β len ((zNm β len 3 0 q).2 + 1) 48 57 = true
        · rw [if_pos u] at h ⊢
          obtain ⟨r1, r2⟩ := zC3_ok h
          have g2 := (zNm_ge (β := β) (len := len) 3 0 ((zNm β len 3 0 q).2 + 1)).1
          rw [r1]
          exact ⟨by show q + 2 ≤ _ + 1; omega, by show _ + 1 ≤ len; omega, rfl, n9 _, n9 _⟩
        · rw [if_neg u] at h; cases h
      · rw [if_neg x] at h; cases h
    · rw [if_neg y] at h ⊢
      obtain ⟨r1, r2⟩ := zC3_ok h
      rw [r1]
      exact ⟨by show q + 2 ≤ _ + 1; omega, by show _ + 1 ≤ len; omega, rfl, n9 _, Nat.zero_le _⟩
  · rw [if_neg z] at h; cases h
theorem zCmd_ok (h : (zCmd β len p).1 = true) : p + 6 ≤ (zCmd β len p).2.1 ∧ (zCmd β len p).2.1 ≤ len ∧ (zCmd β len p).2.2.1 < 7 ∧ (zCmd β len p).2.2.2.1 ≤ 999 ∧ (zCmd β len p).2.2.2.2 ≤ 999 := by
  unfold zCmd at h ⊢
  by_cases z : zWn β p (zWe β len 80 p - p) 7 < 0
  · rw [if_pos z] at h; cases h
  · rw [if_neg z] at h ⊢
    by_cases y : zSee β len (zWe β len 80 p) 32 32 = true
    · rw [if_pos y] at h ⊢
      obtain ⟨r1, r2, r3, r4, r5⟩ := zC2_ok h
      have hmt := zWn_mt (β := β) (p := p) (m := zWe β len 80 p - p) 7 (by omega)
      have hw7 : (zWn β p (zWe β len 80 p - p) 7).toNat < 7 := by
        rcases zWn_rg (β := β) (p := p) (m := zWe β len 80 p - p) 7 with x | x
        · omega
        · omega
      have hm3 : 3 ≤ zWe β len 80 p - p := by
        refine Nat.le_of_not_lt (fun x => ?_)
        have h2 := (zMt_iff.mp hmt).2 2 (by omega)
        rw [if_neg (by omega)] at h2
        exact zTb_word ⟨_, hw7⟩ ⟨2, by omega⟩ h2
      exact ⟨by omega, r2, by rw [r3]; exact hw7, r4, r5⟩
    · rw [if_neg y] at h; cases h
theorem zCmd_le (hp : p ≤ len) : (zCmd β len p).2.1 ≤ len + 10 := by
  have ge2 := (zWe_ge (β := β) (len := len) 80 p).2.1 hp
  have nm := fun q => (zNm_ge (β := β) (len := len) 3 0 q).2.1
  have c3 : ∀ w f s r, (zC3 β len w f s r).2.1 ≤ r + 1 := fun w f s r => by
    unfold zC3
    split
    · exact Nat.le_refl _
    · exact Nat.le_succ _
  have c2 : ∀ w q, (zC2 β len w q).2.1 ≤ q + 8 := fun w q => by
    have n1 := nm q
    have n2 := nm ((zNm β len 3 0 q).2 + 1)
    unfold zC2
    split
    · split
      · split
        · split
          · have := c3 w (zNm β len 3 0 q).1 (zNm β len 3 0 ((zNm β len 3 0 q).2 + 1)).1 (zNm β len 3 0 ((zNm β len 3 0 q).2 + 1)).2
            omega
          · show (zNm β len 3 0 q).2 + 1 ≤ q + 8
            omega
        · show (zNm β len 3 0 q).2 ≤ q + 8
          omega
      · have := c3 w (zNm β len 3 0 q).1 0 (zNm β len 3 0 q).2
        omega
    · show q ≤ q + 8
      omega
  unfold zCmd
  split
  · show p ≤ len + 10
    omega
  · split
    · have := c2 (zWn β p (zWe β len 80 p - p) 7).toNat (zWe β len 80 p + 1)
      omega
    · show zWe β len 80 p ≤ len + 10
      omega
theorem zPs_len : ∀ (k p : Nat), p ≤ len → p + 6 * (zPs β len k p).1.length ≤ len := by
  intro k
  induction k with
  | zero => intro p h; exact h
  | succ k ih =>
    intro p h
    unfold zPs
    by_cases z : (zCmd β len p).1 = true
    · rw [if_pos z]
      obtain ⟨c1, c2, -⟩ := zCmd_ok z
      by_cases y : (zCmd β len p).2.1 < len
      · rw [if_pos y]
        have := ih (zCmd β len p).2.1 (by omega)
        show p + 6 * ((zPs β len k (zCmd β len p).2.1).1.length + 1) ≤ len
        omega
      · rw [if_neg y]
        show p + 6 * 1 ≤ len
        omega
    · rw [if_neg z]; exact h
/-- what a command does, by the reference -/
theorem mX7_performCommand_ok (R : RZ B (μ 1 0) S) (hB : B + 96 * 61 + 200 < 800000000) {c : Nat × Nat × Nat} (hc1 : c.1 < 7) (hc2 : c.2.1 ≤ 999) (hc3 : c.2.2 ≤ 999) (h8 : (μ 0 0 8).toInt = (c.1 : Int)) (h9 : (μ 0 0 9).toInt = (c.2.1 : Int)) (h10 : 3 ≤ c.1 ∧ c.1 ≤ 5 → (μ 0 0 10).toInt = (c.2.2 : Int)) : gOk (mX7_performCommand μ) (fun μ' => gF3 μ μ' ∧ (μ' 0 0 0).toInt = (zDo c S).1 ∧ RZ (B + 5760) (μ' 1 0) (zDo c S).2.2) := by
  have up : ∀ {res : sqRs} {q : Int32 × gM} {B' : Nat}, B' ≤ B + 5760 → rPost μ B' res q → gOk (some q.2) (fun μ' => gF3 μ μ' ∧ (μ' 0 0 0).toInt = res.1 ∧ RZ (B + 5760) (μ' 1 0) res.2.2) := fun hb h => gOk_some ⟨h.1, h.2.1, h.2.2.2.up hb (by omega)⟩
  unfold mX7_performCommand zDo
  refine gOk_eq h8 (y := 0) (b := 0) rfl (fun z => ?_) (fun z => ?_)
  · rw [if_pos (show c.1 = 0 by omega), ← h9]
    exact gOk_bd (mX7_tick_ok R hB) (fun r μ4 hq => up (by omega) hq)
  · rw [if_neg (show ¬ c.1 = 0 by omega)]
    refine gOk_eq h8 (y := 1) (b := 1) rfl (fun z => ?_) (fun z => ?_)
    · rw [if_pos (show c.1 = 1 by omega), ← h9]
      exact gOk_bd (mX7_crash_ok R) (fun r μ4 hq => up (by omega) hq)
    · rw [if_neg (show ¬ c.1 = 1 by omega)]
      refine gOk_eq h8 (y := 2) (b := 2) rfl (fun z => ?_) (fun z => ?_)
      · rw [if_pos (show c.1 = 2 by omega), ← h9]
        exact gOk_bd (mX7_restart_ok R) (fun r μ4 hq => up (by omega) hq)
      · rw [if_neg (show ¬ c.1 = 2 by omega)]
        refine gOk_eq h8 (y := 3) (b := 3) rfl (fun z => ?_) (fun z => ?_)
        · have e10 := h10 ⟨by omega, by omega⟩
          rw [if_pos (show c.1 = 3 by omega), ← h9, ← e10]
          have e : decide ((1 : Int32) ≠ 0) = true := rfl
          have := mX7_setLink_ok (a1 := μ 0 0 9) (a2 := μ 0 0 10) (a3 := 1) R
          rw [e] at this
          exact gOk_bd this (fun r μ4 hq => up (by omega) hq)
        · rw [if_neg (show ¬ c.1 = 3 by omega)]
          refine gOk_eq h8 (y := 4) (b := 4) rfl (fun z => ?_) (fun z => ?_)
          · have e10 := h10 ⟨by omega, by omega⟩
            rw [if_pos (show c.1 = 4 by omega), ← h9, ← e10]
            have e : decide ((0 : Int32) ≠ 0) = false := rfl
            have := mX7_setLink_ok (a1 := μ 0 0 9) (a2 := μ 0 0 10) (a3 := 0) R
            rw [e] at this
            exact gOk_bd this (fun r μ4 hq => up (by omega) hq)
          · rw [if_neg (show ¬ c.1 = 4 by omega)]
            refine gOk_eq h8 (y := 5) (b := 5) rfl (fun z => ?_) (fun z => ?_)
            · have e10 := h10 ⟨by omega, by omega⟩
              rw [if_pos (show c.1 = 5 by omega), ← h9, ← ti_of e10]
              exact gOk_bd (mX7_submit_ok R (by omega)) (fun r μ4 hq => up (by omega) hq)
            · rw [if_neg (show ¬ c.1 = 5 by omega), ← h9]
              exact gOk_bd (mX7_pack_ok R) (fun r μ4 hq => up (by omega) hq)
/-- the cells that performing reaches, the reference's -/
def pfP : Nat → Nat → Nat → Prop := fun f i j => i = 0 ∧ (f = 0 ∧ (j = 0 ∨ 6 ≤ j ∧ j ≤ 11) ∨ f = 1 ∨ f = 4)
theorem scP_pf : ∀ f i j, scP f i j → pfP f i j := fun f i j h => ⟨h.2.1, Or.inl ⟨h.1, by have := h.2.2; omega⟩⟩
theorem gF3.fr (h : gF3 μ μ') : gFr pfP μ μ' := fun f i j q => h f i j (fun z => q ⟨z.2.1, Or.inl ⟨z.1, by omega⟩⟩) (fun z => q ⟨z.2, Or.inr z.1⟩)
theorem zPs_step (hk : 1 ≤ k) : zPs β len k p = if (zCmd β len p).1 = true then (if (zCmd β len p).2.1 < len then ((zCmd β len p).2.2 :: (zPs β len (k - 1) (zCmd β len p).2.1).1, (zPs β len (k - 1) (zCmd β len p).2.1).2) else ([(zCmd β len p).2.2], true, (zCmd β len p).2.1)) else ([], false, (zCmd β len p).2.1) := by
  obtain ⟨k', rfl⟩ : ∃ k', k = k' + 1 := ⟨k - 1, by omega⟩
  rfl
/-- performing the commands one after the other -/
theorem mX7_perform_run {cs : List (Nat × Nat × Nat)} {P2 : Bool × Nat} (hps : zPs β len 80 0 = (cs, P2)) (hok : P2.1 = true) (h : BuR μ β len) (R : RZ B (μ 1 0) S) (hB : B + 5760 * 14 + 96 * 61 + 200 < 800000000) (hth : μ 0 0 0 = 0) (hw : μ 0 0 11 = 0) (h7 : (μ 0 0 7).toInt = 0) {x5 : Int32} (h5 : x5.toInt = (cs.length : Int)) {α : Type} {Q : α → Prop} {j14 : gM → Option α} (hj : ∀ μ', gFr pfP μ μ' → (μ' 0 0 0 = 0 ↔ (zRun cs S).1 = true) → RZ (B + 5760 * 13) (μ' 1 0) (zRun cs S).2 → gOk (j14 μ') Q) : gOk (gFx2 (fun rec30 (x28 : Int32) (μ29 : gM) =>
            if x5 ≤ x28 then
              j14 μ29
            else
              if (μ29 0 0 0) = 0 then
                gBp (mX7_passCommand μ29) fun μ34 =>
                gBp (mX7_performCommand μ34) fun μ36 =>
                rec30 (x28 + 1) μ36
              else
                j14 μ29) 1000000 0 μ) Q := by
  have hl := zPs_len (β := β) (len := len) 80 0 (Nat.zero_le _)
  have hl80 := h.2.1
  rw [hps] at hl
  have hl13 : cs.length ≤ 13 := by have hl : 0 + 6 * cs.length ≤ len := hl; omega
  refine gOk_fx2 (fun v (x28 : Int32) (μ29 : gM) => ∃ (i : Nat) (S' : sqSt), v = cs.length - i ∧ i ≤ cs.length ∧ x28.toInt = (i : Int) ∧ gFr pfP μ μ29 ∧ RZ (B + 5760 * i) (μ29 1 0) S' ∧ ((μ29 0 0 0 = 0 ∧ zRun (cs.drop i) S' = zRun cs S ∧ (i < cs.length → μ29 0 0 11 = 0 ∧ BuR μ29 β len ∧ ∃ k p, 1 ≤ k ∧ p ≤ len ∧ len ≤ p + k ∧ (μ29 0 0 7).toInt = (p : Int) ∧ (zPs β len k p).1 = cs.drop i ∧ (zPs β len k p).2.1 = true)) ∨ (μ29 0 0 0 ≠ 0 ∧ zRun cs S = (false, S')))) ?_ 1000000 cs.length _ _ (by omega) ⟨0, S, rfl, Nat.zero_le _, rfl, gFr.rf, R, Or.inl ⟨hth, rfl, fun _ => ⟨hw, h, 80, 0, by omega, Nat.zero_le _, by omega, h7, by rw [hps]; rfl, by rw [hps]; exact hok⟩⟩⟩
  intro rec v x28 μ29 hI ih
  obtain ⟨i, S', hv, i1, i2, i3, i4, i5⟩ := hI
  subst hv
  refine gOk_le h5 i2 (fun z => ?_) (fun z => ?_)
  · have hi : i = cs.length := by omega
    rcases i5 with ⟨c1, c2, -⟩ | ⟨c1, c2⟩
    · rw [hi, List.drop_length] at c2
      have c2 : (true, S') = zRun cs S := c2
      refine hj _ i3 ⟨fun _ => by rw [← c2], fun _ => c1⟩ ?_
      rw [← c2]
      exact i4.up (by omega) (by omega)
    · refine hj _ i3 ⟨fun y => absurd y c1, fun y => by rw [c2] at y; cases y⟩ ?_
      rw [c2]
      exact i4.up (by omega) (by omega)
  · have hi : i < cs.length := by omega
    rcases i5 with ⟨c1, c2, c3⟩ | ⟨c1, c2⟩
    · obtain ⟨d1, d2, k, p, d3, d4, d5, d6, d7, d8⟩ := c3 hi
      refine gOk_if (fun _ => ?_) (fun y => absurd c1 y)
      have hcs : cs.drop i = cs[i] :: cs.drop (i + 1) := List.drop_eq_getElem_cons hi
      rw [hcs] at d7 c2
      generalize cs[i] = c at *
      rw [zPs_step d3] at d7 d8
      have hco : (zCmd β len p).1 = true := by
        cases y : (zCmd β len p).1 with
        | true => rfl
        | false =>
          rw [y, if_neg (by decide)] at d7
          cases d7
      rw [if_pos hco] at d7 d8
      obtain ⟨o1, o2, o3, o4, o5⟩ := zCmd_ok hco
      refine gOk_bp (mX7_passCommand_ok d2 d1 d6 d4) (fun μ34 h34 => ?_)
      obtain ⟨F34, p34, w34, v34⟩ := h34
      obtain ⟨v8, v9, v10⟩ := v34 hco
      rw [if_pos hco] at w34
      have hcc : (zCmd β len p).2.2 = c := by
        by_cases y : (zCmd β len p).2.1 < len
        · rw [if_pos y] at d7; exact (List.cons.inj d7).1
        · rw [if_neg y] at d7; exact (List.cons.inj d7).1
      rw [hcc] at v8 v9 v10 o3 o4 o5
      have R34 : RZ (B + 5760 * i) (μ34 1 0) S' := by
        have : μ34 1 0 = μ29 1 0 := by funext j; exact F34 1 0 j (by unfold scP; omega)
        rw [this]; exact i4
      refine gOk_bp (mX7_performCommand_ok R34 (by omega) o3 o4 o5 v8 v9 v10) (fun μ36 h36 => ?_)
      obtain ⟨F36, t36, R36⟩ := h36
      have e28 : (x28 + 1).toInt = ((i + 1 : Nat) : Int) := by rw [ti_add i2 (y := 1) (b := 1) rfl (by omega) (by omega)]; omega
      have e57 : B + 5760 * i + 5760 = B + 5760 * (i + 1) := by omega
      rw [e57] at R36
      refine ih _ _ (cs.length - (i + 1)) (by omega) ⟨i + 1, (zDo c S').2.2, rfl, by omega, e28, i3.tr ((F34.up scP_pf).tr F36.fr), R36, ?_⟩
      have hrun : zRun (c :: cs.drop (i + 1)) S' = if (zDo c S').1 = 0 then zRun (cs.drop (i + 1)) (zDo c S').2.2 else (false, (zDo c S').2.2) := rfl
      by_cases y : (zDo c S').1 = 0
      · rw [if_pos y] at hrun
        refine Or.inl ⟨ti_eq (t36.trans (by rw [y]; rfl)) rfl, hrun.symm.trans c2, fun hi2 => ?_⟩
        have hlt : (zCmd β len p).2.1 < len := by
          refine Nat.lt_of_not_le (fun x => ?_)
          rw [if_neg (by omega)] at d7
          have := congrArg List.length (List.cons.inj d7).2
          rw [List.length_drop] at this
          have e0 : ([] : List (Nat × Nat × Nat)).length = 0 := rfl
          omega
        rw [if_pos hlt] at d7 d8
        refine ⟨by rw [F36 0 0 11 (by omega) (by omega)]; exact w34, ?_, k - 1, (zCmd β len p).2.1, by omega, by omega, by omega, by rw [F36 0 0 7 (by omega) (by omega)]; exact p34, (List.cons.inj d7).2, d8⟩
        obtain ⟨b1, b2, b3⟩ := d2.fr F34
        exact ⟨by rw [F36 0 0 6 (by omega) (by omega)]; exact b1, b2, fun x hx => by rw [F36 5 0 x (by omega) (by omega)]; exact b3 x hx⟩
      · rw [if_neg y] at hrun
        refine Or.inr ⟨fun x => y ?_, c2.symm.trans hrun⟩
        rw [x] at t36
        have e0 : (0 : Int32).toInt = 0 := rfl
        omega
    · refine gOk_if (fun y => absurd y c1) (fun _ => hj _ i3 ⟨fun y => absurd y c1, fun y => by rw [c2] at y; cases y⟩ ?_)
      rw [c2]
      exact i4.up (by omega) (by omega)
theorem zaPerf_err {cs : List (Nat × Nat × Nat)} {pos : Nat} (h : zPs β len 80 0 = (cs, false, pos)) : zaPerf β len S = (0, -100 - (pos : Int), S) := by
  unfold zaPerf
  rw [h]; rfl
theorem zaPerf_yes {cs : List (Nat × Nat × Nat)} {pos : Nat} (h : zPs β len 80 0 = (cs, true, pos)) (hr : (zRun cs S).1 = true) : zaPerf β len S = (0, (cs.length : Int), (zRun cs S).2) := by
  unfold zaPerf
  rw [h]
  show (if (zRun cs S).1 = true then ((0, (cs.length : Int), (zRun cs S).2) : sqRs) else (1, 0, (zRun cs S).2)) = _
  rw [if_pos hr]
theorem zaPerf_no {cs : List (Nat × Nat × Nat)} {pos : Nat} (h : zPs β len 80 0 = (cs, true, pos)) (hr : ¬ (zRun cs S).1 = true) : zaPerf β len S = (1, 0, (zRun cs S).2) := by
  unfold zaPerf
  rw [h]
  show (if (zRun cs S).1 = true then ((0, (cs.length : Int), (zRun cs S).2) : sqRs) else (1, 0, (zRun cs S).2)) = _
  rw [if_neg hr]
theorem mX7_perform_ok (h : BuR μ β len) (R : RZ B (μ 1 0) S) (hB : B + 5760 * 14 + 96 * 61 + 200 < 800000000) : gOk (mX7_perform μ) (fun q => gFr pfP μ q.2 ∧ (q.2 0 0 0).toInt = (zaPerf β len S).1 ∧ ((zaPerf β len S).1 = 0 → q.1.toInt = (zaPerf β len S).2.1) ∧ RZ (B + 5760 * 13) (q.2 1 0) (zaPerf β len S).2.2 ∧ q.2 0 0 6 = 0) := by
  have hl80 := h.2.1
  unfold mX7_perform
  refine gOk_lee (fun μ1 h1 => gOk_lee (fun μ3 h3 => ?_))
  have F3 : gFr scP μ μ3 := by
    rw [h3, h1]
    exact (gFr.w ⟨rfl, rfl, by omega⟩).tr (gFr.w ⟨rfl, rfl, by omega⟩)
  have p3 : (μ3 0 0 7).toInt = ((0 : Nat) : Int) := by rw [h3, w3_o _ _ (by omega), h1, w3_at]; rfl
  have w3' : μ3 0 0 11 = 0 := by rw [h3, w3_at]
  have row : ∀ {μ' : gM}, gFr scP μ μ' → μ' 1 0 = μ 1 0 := fun F => by funext j; exact F 1 0 j (by unfold scP; omega)
  have hl := zPs_len (β := β) (len := len) 80 0 (Nat.zero_le _)
  obtain ⟨cs, ok, pos, hps⟩ : ∃ cs ok pos, zPs β len 80 0 = (cs, ok, pos) := ⟨_, _, _, rfl⟩
  rw [hps] at hl
  have hl : 0 + 6 * cs.length ≤ len := hl
  refine gOk_jq2 (fun (x5 : Int32) (μ6 : gM) => gFr scP μ μ6 ∧ (μ6 0 0 11 = if ok = true then 0 else 1) ∧ (ok = false → (μ6 0 0 7).toInt = (pos : Int) ∧ pos ≤ 1000) ∧ (ok = true → x5.toInt = (cs.length : Int))) (fun x5 μ6 hc => ?_) (fun j7 hj7 => ?_)
  · obtain ⟨F6, w6, c6, v6⟩ := hc
    refine gOk_lee (fun μ8 h8 => ?_)
    have o8 : ∀ f i j, ¬ (f = 0 ∧ i = 0 ∧ j = 0) → μ8 f i j = μ6 f i j := fun f i j z => by rw [h8, w3_o _ _ z]
    have F8 : gFr pfP μ μ8 := (F6.up scP_pf).tr (by rw [h8]; exact gFr.w ⟨rfl, Or.inl ⟨rfl, by omega⟩⟩)
    have t8 : μ8 0 0 0 = 0 := by rw [h8, w3_at]
    have r8 : μ8 1 0 = μ 1 0 := by rw [← row F6]; funext j; exact o8 1 0 j (by omega)
    have w8 : μ8 0 0 11 = if ok = true then 0 else 1 := by rw [o8 0 0 11 (by omega)]; exact w6
    cases ok with
    | false =>
      have w8 : μ8 0 0 11 = 1 := w8
      obtain ⟨c7, c8⟩ := c6 rfl
      rw [w8]
      refine gOk_if (fun z => absurd z (by decide)) (fun _ => gOk_lee (fun μ37 h37 => gOk_let (gOk_some ?_)))
      rw [zaPerf_err hps]
      refine ⟨F8.tr (by rw [h37]; exact gFr.w ⟨rfl, Or.inl ⟨rfl, by omega⟩⟩), ?_, fun _ => ?_, ?_, (show μ37 0 0 6 = 0 by rw [h37, w3_at])⟩
      · show (μ37 0 0 0).toInt = 0
        rw [h37, w3_o _ _ (by omega), t8]; rfl
      · show (-100 - μ37 0 0 7).toInt = -100 - (pos : Int)
        have e7 : (μ37 0 0 7).toInt = (pos : Int) := by rw [h37, w3_o _ _ (by omega), o8 0 0 7 (by omega)]; exact c7
        exact ti_sub (x := -100) (a := -100) (by decide +kernel) e7 (by omega) (by omega)
      · have : μ37 1 0 = μ 1 0 := by rw [← r8, h37]; funext j; rw [w3_o _ _ (by omega)]
        show RZ (B + 5760 * 13) (μ37 1 0) S
        rw [this]; exact R.up (by omega) (by omega)
    | true =>
      have w8 : μ8 0 0 11 = 0 := w8
      have v6 := v6 rfl
      rw [w8]
      refine gOk_if (fun _ => gOk_lee (fun μ11 h11 => ?_)) (fun z => absurd rfl z)
      have o11 : ∀ f i j, ¬ (f = 0 ∧ i = 0 ∧ j = 7) → μ11 f i j = μ8 f i j := fun f i j z => by rw [h11, w3_o _ _ z]
      have F11 : gFr pfP μ μ11 := F8.tr (by rw [h11]; exact gFr.w ⟨rfl, Or.inl ⟨rfl, by omega⟩⟩)
      have b11 : BuR μ11 β len := by
        obtain ⟨b1, b2, b3⟩ := h.fr F6
        exact ⟨by rw [o11 0 0 6 (by omega), o8 0 0 6 (by omega)]; exact b1, b2, fun i hi => by rw [o11 5 0 i (by omega), o8 5 0 i (by omega)]; exact b3 i hi⟩
      have R11 : RZ B (μ11 1 0) S := by
        have : μ11 1 0 = μ 1 0 := by rw [← r8]; funext j; exact o11 1 0 j (by omega)
        rw [this]; exact R
      refine gOk_jq (γ := gM) (fun μ13 => gFr pfP μ11 μ13 ∧ (μ13 0 0 0 = 0 ↔ (zRun cs S).1 = true) ∧ RZ (B + 5760 * 13) (μ13 1 0) (zRun cs S).2) (fun μ13 hc => ?_) (fun j14 hj14 => ?_)
      · obtain ⟨F13, t13, R13⟩ := hc
        refine gOk_lee (fun μ15 h15 => gOk_lee (fun x17 h17 => ?_))
        have e0 : μ15 0 0 0 = μ13 0 0 0 := by rw [h15, w3_o _ _ (by omega)]
        have F15 : gFr pfP μ μ15 := F11.tr (F13.tr (by rw [h15]; exact gFr.w ⟨rfl, Or.inl ⟨rfl, by omega⟩⟩))
        have l15 : μ15 0 0 6 = 0 := by rw [h15, w3_at]
        have r15 : μ15 1 0 = μ13 1 0 := by rw [h15]; funext j; rw [w3_o _ _ (by omega)]
        rw [e0] at h17
        have fin : ∀ k : Int32, gFr pfP μ (w3 μ15 0 0 0 k) ∧ w3 μ15 0 0 0 k 0 0 6 = 0 ∧ w3 μ15 0 0 0 k 1 0 = μ13 1 0 := fun k => ⟨F15.tr (gFr.w ⟨rfl, Or.inl ⟨rfl, by omega⟩⟩), by rw [w3_o _ _ (by omega)]; exact l15, by rw [← r15]; funext j; rw [w3_o _ _ (by omega)]⟩
        by_cases y : (zRun cs S).1 = true
        · rw [if_pos (t13.mpr y)] at h17
          refine gOk_fails (Or.inl h17) (fun _ => gOk_let (gOk_some ?_)) (fun z => absurd (h17.symm.trans z) (by decide))
          obtain ⟨f1, f2, f3⟩ := fin 0
          rw [zaPerf_yes hps y]
          refine ⟨f1, ?_, fun _ => ?_, ?_, f2⟩
          · show (w3 μ15 0 0 0 0 0 0 0).toInt = 0
            rw [w3_at]; rfl
          · rw [if_pos rfl]; exact v6
          · show RZ (B + 5760 * 13) (w3 μ15 0 0 0 0 1 0) (zRun cs S).2
            rw [f3]; exact R13
        · rw [if_neg (fun z => y (t13.mp z))] at h17
          refine gOk_fails (Or.inr h17) (fun z => absurd (h17.symm.trans z) (by decide)) (fun _ => gOk_let (gOk_some ?_))
          obtain ⟨f1, f2, f3⟩ := fin 1
          rw [zaPerf_no hps y]
          refine ⟨f1, ?_, fun z => (by cases z), ?_, f2⟩
          · show (w3 μ15 0 0 0 1 0 0 0).toInt = 1
            rw [w3_at]; rfl
          · show RZ (B + 5760 * 13) (w3 μ15 0 0 0 1 1 0) (zRun cs S).2
            rw [f3]; exact R13
      · exact mX7_perform_run hps rfl b11 R11 hB (by rw [o11 0 0 0 (by omega)]; exact t8) (by rw [o11 0 0 11 (by omega)]; exact w8) (by rw [h11, w3_at]; rfl) v6 (fun μ' f t r => hj14 μ' ⟨f, t, r⟩)
  · refine gOk_fx2 (fun v (x43 : Int32) (μ44 : gM) => ∃ (i k p : Nat), v = len - p ∧ x43.toInt = (i : Int) ∧ 1 ≤ k ∧ p ≤ len ∧ len ≤ p + k ∧ i ≤ p ∧ gFr scP μ μ44 ∧ (μ44 0 0 7).toInt = (p : Int) ∧ μ44 0 0 11 = 0 ∧ (zPs β len k p).2 = (ok, pos) ∧ i + (zPs β len k p).1.length = cs.length) ?_ 1000000 (len - 0) _ _ (by omega) ⟨0, 80, 0, rfl, rfl, by omega, Nat.zero_le _, by omega, Nat.le_refl _, F3, p3, w3', by rw [hps], by rw [hps]; exact Nat.zero_add _⟩
    intro rec v x43 μ44 hI ih
    obtain ⟨i, k, p, hv, i1, i2, i3, i4, i5, i6, i7, i8, i9, i10⟩ := hI
    subst hv
    rw [zPs_step i2] at i9 i10
    refine gOk_bp (mX7_passCommand_ok (h.fr i6) i8 i7 i3) (fun μ47 h47 => ?_)
    obtain ⟨F47, p47, w47, -⟩ := h47
    have e43 : (x43 + 1).toInt = ((i + 1 : Nat) : Int) := by rw [ti_add i1 (y := 1) (b := 1) rfl (by omega) (by omega)]; omega
    have l47 : (μ47 0 0 6).toInt = (len : Int) := ((h.fr i6).fr F47).1
    by_cases y : (zCmd β len p).1 = true
    · rw [if_pos y] at i9 i10 w47
      obtain ⟨o1, o2, -⟩ := zCmd_ok y
      rw [w47]
      refine gOk_if (fun _ => ?_) (fun z => absurd rfl z)
      refine gOk_lt p47 l47 (fun z => ?_) (fun z => hj7 _ _ ⟨i6.tr F47, ?_, fun x => ?_, fun x => ?_⟩)
      · rw [if_pos (show (zCmd β len p).2.1 < len by omega)] at i9 i10
        refine ih _ _ (len - (zCmd β len p).2.1) (by omega) ⟨i + 1, k - 1, (zCmd β len p).2.1, rfl, e43, by omega, by omega, by omega, by omega, i6.tr F47, p47, w47, i9, ?_⟩
        have i10 : i + ((zPs β len (k - 1) (zCmd β len p).2.1).1.length + 1) = cs.length := i10
        omega
      · rw [if_neg (show ¬ (zCmd β len p).2.1 < len by omega)] at i9
        have i9 : (true, (zCmd β len p).2.1) = (ok, pos) := i9
        have q1 : true = ok := (Prod.ext_iff.mp i9).1
        rw [← q1, w47]; rfl
      · rw [if_neg (show ¬ (zCmd β len p).2.1 < len by omega)] at i9
        have i9 : (true, (zCmd β len p).2.1) = (ok, pos) := i9
        have := (Prod.ext_iff.mp i9).1
        have : true = ok := this
        rw [x] at this; cases this
      · rw [if_neg (show ¬ (zCmd β len p).2.1 < len by omega)] at i10
        have i10 : i + 1 = cs.length := i10
        rw [e43]; omega
    · rw [if_neg y] at i9 i10 w47
      rw [w47]
      have i9 : (false, (zCmd β len p).2.1) = (ok, pos) := i9
      have q1 : false = ok := (Prod.ext_iff.mp i9).1
      have q2 : (zCmd β len p).2.1 = pos := (Prod.ext_iff.mp i9).2
      refine gOk_if (fun z => absurd z (by decide)) (fun _ => hj7 _ _ ⟨i6.tr F47, by rw [← q1, w47]; rfl, fun _ => ⟨by rw [← q2]; exact p47, ?_⟩, fun x => by rw [← q1] at x; cases x⟩)
      have := zCmd_le (β := β) i3
      omega
end SqScr3
