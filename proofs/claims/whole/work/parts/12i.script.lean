/-! Scripts: the class performs them. -/
section SqScr6
variable {μ μ' : gM} {β : Nat → Int32} {len p q k v w m n e B nc x : Nat} {a1 a2 a3 : Int32} {S : sqSt} {c : Nat × Nat × Nat}
theorem zaTick_0 {t : Int} : (zaTick S t).1 = 0 ↔ (1 ≤ t ∧ t ≤ 60) := by
  unfold zaTick
  by_cases h : 1 ≤ t ∧ t ≤ 60
  · rw [if_pos h]; exact ⟨fun _ => h, fun _ => rfl⟩
  · rw [if_neg h]; exact ⟨fun z => (by cases z), fun z => absurd z h⟩
theorem zaCrash_0 {a : Int} : (zaCrash S a).1 = 0 ↔ ((0 ≤ a ∧ a < 5) ∧ nup (zno S a.toNat) = true) := by
  unfold zaCrash
  by_cases h : 0 ≤ a ∧ a < 5
  · rw [if_neg (fun z => z h)]
    by_cases u : nup (zno S a.toNat) = false
    · rw [if_pos u]; exact ⟨fun z => (by cases z), fun z => by rw [u] at z; cases z.2⟩
    · rw [if_neg u]; exact ⟨fun _ => ⟨h, by rw [← Bool.not_eq_false]; exact u⟩, fun _ => rfl⟩
  · rw [if_pos h]; exact ⟨fun z => (by cases z), fun z => absurd z.1 h⟩
theorem zaBack_0 {a : Int} : (zaBack S a).1 = 0 ↔ ((0 ≤ a ∧ a < 5) ∧ nup (zno S a.toNat) = false) := by
  unfold zaBack
  by_cases h : 0 ≤ a ∧ a < 5
  · rw [if_neg (fun z => z h)]
    by_cases u : nup (zno S a.toNat) = true
    · rw [if_pos u]; exact ⟨fun z => (by cases z), fun z => by rw [u] at z; cases z.2⟩
    · rw [if_neg u]; exact ⟨fun _ => ⟨h, by rw [← Bool.not_eq_true]; exact u⟩, fun _ => rfl⟩
  · rw [if_pos h]; exact ⟨fun z => (by cases z), fun z => absurd z.1 h⟩
theorem zaPack_0 {a : Int} : (zaPack S a).1 = 0 ↔ ((0 ≤ a ∧ a < 5) ∧ nup (zno S a.toNat) = true) := by
  unfold zaPack
  by_cases h : 0 ≤ a ∧ a < 5
  · rw [if_neg (fun z => z h)]
    by_cases u : nup (zno S a.toNat) = false
    · rw [if_pos u]; exact ⟨fun z => (by cases z), fun z => by rw [u] at z; cases z.2⟩
    · rw [if_neg u]; exact ⟨fun _ => ⟨h, by rw [← Bool.not_eq_false]; exact u⟩, fun _ => rfl⟩
  · rw [if_pos h]; exact ⟨fun z => (by cases z), fun z => absurd z.1 h⟩
theorem zaSub_0 {a : Int} {y : Int32} : (zaSub S a y).1 = 0 ↔ ((0 ≤ a ∧ a < 5) ∧ nro (zno S a.toNat) = 2 ∧ (nlg (zno S a.toNat)).length < nbs (zno S a.toNat) + 24) := by
  unfold zaSub
  by_cases h : 0 ≤ a ∧ a < 5
  · rw [if_neg (fun z => z h)]
    by_cases u : nro (zno S a.toNat) ≠ 2
    · rw [if_pos u]; exact ⟨fun z => (by cases z), fun z => absurd z.2.1 u⟩
    · rw [if_neg u]
      by_cases t : nbs (zno S a.toNat) + 24 ≤ (nlg (zno S a.toNat)).length
      · rw [if_pos t]; exact ⟨fun z => (by cases z), fun z => by have := z.2.2; omega⟩
      · rw [if_neg t]; exact ⟨fun _ => ⟨h, Classical.byContradiction u, by omega⟩, fun _ => rfl⟩
  · rw [if_pos h]; exact ⟨fun z => (by cases z), fun z => absurd z.1 h⟩
theorem zaLink_0 {a b : Int} {y : Bool} : (zaLink S a b y).1 = 0 ↔ ((0 ≤ a ∧ a < 5) ∧ (0 ≤ b ∧ b < 5) ∧ a ≠ b) := by
  unfold zaLink
  by_cases h : (0 ≤ a ∧ a < 5) ∧ (0 ≤ b ∧ b < 5)
  · rw [if_neg (fun z => z h)]
    by_cases u : a = b
    · rw [if_pos u]; exact ⟨fun z => (by cases z), fun z => absurd u z.2.2⟩
    · rw [if_neg u]; exact ⟨fun _ => ⟨h.1, h.2, u⟩, fun _ => rfl⟩
  · rw [if_pos h]; exact ⟨fun z => (by cases z), fun z => absurd ⟨z.1, z.2.1⟩ h⟩
/-- the word of a command decides -/
theorem zDo_at (hw : c.1 < 7) : (c.1 = 0 ∧ zDo c S = zaTick S c.2.1) ∨ (c.1 = 1 ∧ zDo c S = zaCrash S c.2.1) ∨ (c.1 = 2 ∧ zDo c S = zaBack S c.2.1) ∨ (c.1 = 3 ∧ zDo c S = zaLink S c.2.1 c.2.2 true) ∨ (c.1 = 4 ∧ zDo c S = zaLink S c.2.1 c.2.2 false) ∨ (c.1 = 5 ∧ zDo c S = zaSub S c.2.1 (Int32.ofNat c.2.2)) ∨ (c.1 = 6 ∧ zDo c S = zaPack S c.2.1) := by
  unfold zDo
  rcases (show c.1 = 0 ∨ c.1 = 1 ∨ c.1 = 2 ∨ c.1 = 3 ∨ c.1 = 4 ∨ c.1 = 5 ∨ c.1 = 6 by omega) with y | y | y | y | y | y | y
  · exact Or.inl ⟨y, by rw [if_pos y]⟩
  · exact Or.inr (Or.inl ⟨y, by rw [if_neg (by omega), if_pos y]⟩)
  · exact Or.inr (Or.inr (Or.inl ⟨y, by rw [if_neg (by omega), if_neg (by omega), if_pos y]⟩))
  · exact Or.inr (Or.inr (Or.inr (Or.inl ⟨y, by rw [if_neg (by omega), if_neg (by omega), if_neg (by omega), if_pos y]⟩)))
  · exact Or.inr (Or.inr (Or.inr (Or.inr (Or.inl ⟨y, by rw [if_neg (by omega), if_neg (by omega), if_neg (by omega), if_neg (by omega), if_pos y]⟩))))
  · exact Or.inr (Or.inr (Or.inr (Or.inr (Or.inr (Or.inl ⟨y, by rw [if_neg (by omega), if_neg (by omega), if_neg (by omega), if_neg (by omega), if_neg (by omega), if_pos y]⟩)))))
  · exact Or.inr (Or.inr (Or.inr (Or.inr (Or.inr (Or.inr ⟨y, by rw [if_neg (by omega), if_neg (by omega), if_neg (by omega), if_neg (by omega), if_neg (by omega), if_neg (by omega)]⟩)))))
theorem gOk_no01 {c : Prop} [Decidable c] (h : ¬ c) : gOk (some (0 : Int32)) (fun r => r = if c then 1 else 0) := gOk_some (by rw [if_neg h])
theorem gOk_yes01 {c : Prop} [Decidable c] (h : c) : gOk (some (1 : Int32)) (fun r => r = if c then 1 else 0) := gOk_some (by rw [if_pos h])
theorem mX6_isPossible_ok (R : RY B μ 0 S) (hw : c.1 < 7) (h1 : a1.toInt = (c.1 : Int)) (h2 : a2.toInt = (c.2.1 : Int)) (h3 : 3 ≤ c.1 ∧ c.1 ≤ 5 → a3.toInt = (c.2.2 : Int)) : gOk (mX6_isPossible nc a1 a2 a3 μ) (fun r => r = if (zDo c S).1 = 0 then 1 else 0) := by
  have hd := zDo_at (S := S) hw
  unfold mX6_isPossible
  generalize zDo c S = D at *
  refine gOk_eq h1 (y := 0) (b := 0) rfl (fun z => ?_) (fun z => ?_)
  · have hD : D = zaTick S c.2.1 := by
      rcases hd with ⟨u, v⟩ | ⟨u, v⟩ | ⟨u, v⟩ | ⟨u, v⟩ | ⟨u, v⟩ | ⟨u, v⟩ | ⟨u, v⟩ <;> first | exact v | (exfalso; omega)
    refine gOk_bp (mX6_areTicks_ok μ a2) (fun r32 h32 => gOk_chk (by rw [h32]; split <;> decide) (gOk_some ?_))
    rw [h32, hD]
    by_cases y : 1 ≤ (c.2.1 : Int) ∧ (c.2.1 : Int) ≤ 60
    · rw [if_pos (by omega), if_pos (zaTick_0.mpr y)]
    · rw [if_neg (by omega), if_neg (fun u => y (zaTick_0.mp u))]
  · refine gOk_bp (mX6_isNode_ok2 μ a2) (fun r3 hr3 => gOk_t01 hr3 (fun y => gOk_no01 (fun u => y ?_)) (fun y => ?_))
    · rcases hd with ⟨u', v⟩ | ⟨u', v⟩ | ⟨u', v⟩ | ⟨u', v⟩ | ⟨u', v⟩ | ⟨u', v⟩ | ⟨u', v⟩ <;> rw [v] at u
      · omega
      · have := (zaCrash_0.mp u).1; omega
      · have := (zaBack_0.mp u).1; omega
      · have := (zaLink_0.mp u).1; omega
      · have := (zaLink_0.mp u).1; omega
      · have := (zaSub_0.mp u).1; omega
      · have := (zaPack_0.mp u).1; omega
    · have hn : c.2.1 < 5 := by omega
      have hb := R.1.2.1 c.2.1 hn
      have r5 := hb.1.2.1
      have en : ((c.2.1 : Int)).toNat = c.2.1 := by omega
      have hnd : 0 ≤ (c.2.1 : Int) ∧ (c.2.1 : Int) < 5 := by omega
      simp only [ti_cl h2]
      refine gOk_chk (ti_inb h2 hn) ?_
      have up : (D.1 = 0 ↔ nup (zno S c.2.1) = true) → gOk (gChk ((μ 11 (5 * 0 + c.2.1) 5) = 0 ∨ (μ 11 (5 * 0 + c.2.1) 5) = 1) <| some (μ 11 (5 * 0 + c.2.1) 5)) (fun r => r = if D.1 = 0 then 1 else 0) := fun hi => by
        by_cases u : nup (zno S c.2.1) = true
        · rw [u, if_pos rfl] at r5
          have e : μ 11 (5 * 0 + c.2.1) 5 = 1 := ti_eq r5 rfl
          exact gOk_chk (Or.inr e) (gOk_some (by rw [if_pos (hi.mpr u)]; exact e))
        · rw [if_neg u] at r5
          have e : μ 11 (5 * 0 + c.2.1) 5 = 0 := ti_eq r5 rfl
          exact gOk_chk (Or.inl e) (gOk_some (by rw [if_neg (fun t => u (hi.mp t))]; exact e))
      have link : (3 ≤ c.1 ∧ c.1 ≤ 4) → (D.1 = 0 ↔ ((0 ≤ (c.2.2 : Int) ∧ (c.2.2 : Int) < 5) ∧ (c.2.1 : Int) ≠ (c.2.2 : Int))) → gOk (gBp (mX6_isNode nc a3 μ) fun r12 => if r12 = 0 then some (0 : Int32) else if a2 = a3 then some 0 else some 1) (fun r => r = if D.1 = 0 then 1 else 0) := fun hc hi => by
        have e3 := h3 ⟨by omega, by omega⟩
        refine gOk_bp (mX6_isNode_ok2 μ a3) (fun r12 h12 => gOk_t01 h12 (fun u => gOk_no01 (fun t => u (by have := (hi.mp t).1; omega))) (fun u => ?_))
        refine gOk_eq h2 e3 (fun t => gOk_no01 (fun s => (hi.mp s).2 t)) (fun t => gOk_yes01 (hi.mpr ⟨by omega, t⟩))
      refine gOk_eq h1 (y := 1) (b := 1) rfl (fun z1 => up ?_) (fun z1 => ?_)
      · have hD : D = zaCrash S c.2.1 := by
          rcases hd with ⟨u, v⟩ | ⟨u, v⟩ | ⟨u, v⟩ | ⟨u, v⟩ | ⟨u, v⟩ | ⟨u, v⟩ | ⟨u, v⟩ <;> first | exact v | (exfalso; omega)
        rw [hD, zaCrash_0, en]
        exact ⟨fun u => u.2, fun u => ⟨hnd, u⟩⟩
      · refine gOk_eq h1 (y := 2) (b := 2) rfl (fun z2 => ?_) (fun z2 => ?_)
        · have hD : D = zaBack S c.2.1 := by
            rcases hd with ⟨u, v⟩ | ⟨u, v⟩ | ⟨u, v⟩ | ⟨u, v⟩ | ⟨u, v⟩ | ⟨u, v⟩ | ⟨u, v⟩ <;> first | exact v | (exfalso; omega)
          have hi : D.1 = 0 ↔ nup (zno S c.2.1) = false := by
            rw [hD, zaBack_0, en]
            exact ⟨fun u => u.2, fun u => ⟨hnd, u⟩⟩
          cases u : nup (zno S c.2.1) with
          | true =>
            rw [u, if_pos rfl] at r5
            exact gOk_eq r5 (y := 0) (b := 0) rfl (fun t => absurd t (by decide)) (fun _ => gOk_no01 (fun t => by have := hi.mp t; rw [u] at this; cases this))
          | false =>
            rw [u, if_neg (by decide)] at r5
            exact gOk_eq r5 (y := 0) (b := 0) rfl (fun _ => gOk_yes01 (hi.mpr u)) (fun t => absurd rfl t)
        · refine gOk_eq h1 (y := 3) (b := 3) rfl (fun z3 => link ⟨by omega, by omega⟩ ?_) (fun z3 => ?_)
          · have hD : D = zaLink S c.2.1 c.2.2 true := by
              rcases hd with ⟨u, v⟩ | ⟨u, v⟩ | ⟨u, v⟩ | ⟨u, v⟩ | ⟨u, v⟩ | ⟨u, v⟩ | ⟨u, v⟩ <;> first | exact v | (exfalso; omega)
            rw [hD, zaLink_0]
            exact ⟨fun u => u.2, fun u => ⟨hnd, u⟩⟩
          · refine gOk_eq h1 (y := 4) (b := 4) rfl (fun z4 => link ⟨by omega, by omega⟩ ?_) (fun z4 => ?_)
            · have hD : D = zaLink S c.2.1 c.2.2 false := by
                rcases hd with ⟨u, v⟩ | ⟨u, v⟩ | ⟨u, v⟩ | ⟨u, v⟩ | ⟨u, v⟩ | ⟨u, v⟩ | ⟨u, v⟩ <;> first | exact v | (exfalso; omega)
              rw [hD, zaLink_0]
              exact ⟨fun u => u.2, fun u => ⟨hnd, u⟩⟩
            · refine gOk_eq h1 (y := 5) (b := 5) rfl (fun z5 => ?_) (fun z5 => ?_)
              · have hD : D = zaSub S c.2.1 (Int32.ofNat c.2.2) := by
                  rcases hd with ⟨u, v⟩ | ⟨u, v⟩ | ⟨u, v⟩ | ⟨u, v⟩ | ⟨u, v⟩ | ⟨u, v⟩ | ⟨u, v⟩ <;> first | exact v | (exfalso; omega)
                have hi : D.1 = 0 ↔ (nro (zno S c.2.1) = 2 ∧ (nlg (zno S c.2.1)).length < nbs (zno S c.2.1) + 24) := by
                  rw [hD, zaSub_0, en]
                  exact ⟨fun u => u.2, fun u => ⟨hnd, u⟩⟩
                refine gOk_eq hb.2.1 (y := 2) (b := 2) rfl (fun u => ?_) (fun u => gOk_no01 (fun t => u (by have := (hi.mp t).1; omega)))
                refine gOk_bp (mX1_isFull_ok hb.1.2.2.2.2.2.1) (fun r23 h23 => ?_)
                by_cases t : (nlg (zno S c.2.1)).length < nbs (zno S c.2.1) + 24
                · rw [if_pos t] at h23
                  exact gOk_if (fun _ => gOk_yes01 (hi.mpr ⟨by omega, t⟩)) (fun s => absurd h23 s)
                · rw [if_neg t] at h23
                  exact gOk_if (fun s => absurd (h23.symm.trans s) (by decide)) (fun _ => gOk_no01 (fun s => t (hi.mp s).2))
              · have h6 : c.1 = 6 := by omega
                refine gOk_eq h1 (y := 6) (b := 6) rfl (fun _ => up ?_) (fun z6 => absurd (by omega) z6)
                have hD : D = zaPack S c.2.1 := by
                  rcases hd with ⟨u, v⟩ | ⟨u, v⟩ | ⟨u, v⟩ | ⟨u, v⟩ | ⟨u, v⟩ | ⟨u, v⟩ | ⟨u, v⟩ <;> first | exact v | (exfalso; omega)
                rw [hD, zaPack_0, en]
                exact ⟨fun u => u.2, fun u => ⟨hnd, u⟩⟩
theorem zIL.up {B' : Nat} (I : zIL B S) (h : B ≤ B') : zIL B' S := ⟨I.1, I.2.up h⟩
theorem zIL.link (I : zIL B S) (a b : Nat) (y : Bool) : zIL B (zCu S a b y) := by
  obtain ⟨⟨h, I0⟩, L⟩ := I
  exact ⟨⟨h, I0⟩, L⟩
/-- what must hold goes on to hold through a command -/
theorem zIL.doit (I : zIL B S) (hw : c.1 < 7) : zIL (B + 5760) (zDo c S).2.2 := by
  rcases zDo_at (S := S) hw with ⟨u, v⟩ | ⟨u, v⟩ | ⟨u, v⟩ | ⟨u, v⟩ | ⟨u, v⟩ | ⟨u, v⟩ | ⟨u, v⟩ <;> rw [v]
  · unfold zaTick
    by_cases h : 1 ≤ (c.2.1 : Int) ∧ (c.2.1 : Int) ≤ 60
    · rw [if_pos h]; exact (zIL.tick _ _ _ I).1.up (by omega)
    · rw [if_neg h]; exact I.up (by omega)
  · unfold zaCrash
    by_cases h : 0 ≤ (c.2.1 : Int) ∧ (c.2.1 : Int) < 5
    · rw [if_neg (fun z => z h)]
      split
      · exact I.up (by omega)
      · exact (I.crash (by omega)).up (by omega)
    · rw [if_pos h]; exact I.up (by omega)
  · unfold zaBack
    by_cases h : 0 ≤ (c.2.1 : Int) ∧ (c.2.1 : Int) < 5
    · rw [if_neg (fun z => z h)]
      by_cases t : nup (zno S (c.2.1 : Int).toNat) = true
      · rw [if_pos t]; exact I.up (by omega)
      · rw [if_neg t]
        unfold zBack
        exact (I.back (by omega) (by rw [← Bool.not_eq_true]; exact t) _).up (by omega)
    · rw [if_pos h]; exact I.up (by omega)
  · unfold zaLink
    split
    · exact I.up (by omega)
    · split
      · exact I.up (by omega)
      · exact (I.link _ _ _).up (by omega)
  · unfold zaLink
    split
    · exact I.up (by omega)
    · split
      · exact I.up (by omega)
      · exact (I.link _ _ _).up (by omega)
  · unfold zaSub
    by_cases h : 0 ≤ (c.2.1 : Int) ∧ (c.2.1 : Int) < 5
    · rw [if_neg (fun z => z h)]
      by_cases t : nro (zno S (c.2.1 : Int).toNat) ≠ 2
      · rw [if_pos t]; exact I.up (by omega)
      · rw [if_neg t]
        by_cases s : nbs (zno S (c.2.1 : Int).toNat) + 24 ≤ (nlg (zno S (c.2.1 : Int).toNat)).length
        · rw [if_pos s]; exact I.up (by omega)
        · rw [if_neg s]
          have hr := Classical.byContradiction t
          have hn : (c.2.1 : Int).toNat < 5 := by omega
          have htm := (I.2.2.2.2.1 _ hn).1
          have hz : zIL (B + 1) (zAdd S (c.2.1 : Int).toNat 0 (Int32.ofNat c.2.2)) := I.add hn hr (by omega) (fun c hc => by cases hc) ⟨by show ntm (zno S (c.2.1 : Int).toNat) ≤ B + 1; omega, by show 0 ≤ 3; decide, fun r => absurd r (by show ¬ 0 = 1; decide), fun r => absurd r (by show ¬ 0 = 2; decide)⟩
          unfold zSub
          exact (hz.com hn (by rw [zAdd_at]; exact hr)).up (by omega)
    · rw [if_pos h]; exact I.up (by omega)
  · unfold zaPack
    by_cases h : 0 ≤ (c.2.1 : Int) ∧ (c.2.1 : Int) < 5
    · rw [if_neg (fun z => z h)]
      split
      · exact I.up (by omega)
      · exact (I.pack (by omega)).up (by omega)
    · rw [if_pos h]; exact I.up (by omega)
theorem mX6_carryOut_ok (R : RY B μ 0 S) (hB : B + 96 * 60 + 200 < 800000000) (hnc : 0 < nc ∧ nc ≤ 2) (hw : c.1 < 7) (h1 : a1.toInt = (c.1 : Int)) (h2 : a2.toInt = (c.2.1 : Int)) (h3 : 3 ≤ c.1 ∧ c.1 ≤ 5 → a3.toInt = (c.2.2 : Int)) (h0 : (zDo c S).1 = 0) : gOk (mX6_carryOut nc a1 a2 a3 μ) (fun q => ∃ μ', q = .inr μ' ∧ gFr (rbP 0) μ μ' ∧ RB μ' 0 (zDo c S).2.2) := by
  have hd := zDo_at (S := S) hw
  have hnode : c.1 ≠ 0 → c.2.1 < 5 := fun z => by
    rcases hd with ⟨u', v⟩ | ⟨u', v⟩ | ⟨u', v⟩ | ⟨u', v⟩ | ⟨u', v⟩ | ⟨u', v⟩ | ⟨u', v⟩ <;> rw [v] at h0
    · exact absurd u' z
    · have := (zaCrash_0.mp h0).1; omega
    · have := (zaBack_0.mp h0).1; omega
    · have := (zaLink_0.mp h0).1; omega
    · have := (zaLink_0.mp h0).1; omega
    · have := (zaSub_0.mp h0).1; omega
    · have := (zaPack_0.mp h0).1; omega
  -- each call that doesn't throw
  have back : ∀ {P : Nat → Nat → Nat → Prop} {ls : List String} {res : sqRs} {o : Option (Sum (String × gM) (Int32 × gM))}, res.1 = 0 → gOk o (cPost P μ ls res) → ∃ p, o = some (.inr p) ∧ gFr P μ p.2 ∧ RB p.2 0 res.2.2 := fun {P ls res o} hz ho => by
    obtain ⟨a, e, pa⟩ := ho
    cases a with
    | inl y => exact absurd hz pa.1
    | inr y => exact ⟨y, e, pa.2.2⟩
  unfold mX6_carryOut
  generalize hD : zDo c S = D at *
  refine gOk_eq h1 (y := 0) (b := 0) rfl (fun z => ?_) (fun z => ?_)
  · have hv : D = zaTick S c.2.1 := by
      rcases hd with ⟨u, v⟩ | ⟨u, v⟩ | ⟨u, v⟩ | ⟨u, v⟩ | ⟨u, v⟩ | ⟨u, v⟩ | ⟨u, v⟩ <;> first | exact v | (exfalso; omega)
    rw [hv] at h0 ⊢
    have ht := zaTick_0.mp h0
    refine gOk_bp (mX0_advance_ok R (T := c.2.1) (by omega) (by omega) hnc.1 hnc.2 h2) (fun μ40 h40 => gOk_some ⟨μ40, rfl, h40.1, ?_⟩)
    unfold zaTick
    rw [if_pos ht]
    have : (c.2.1 : Int).toNat = c.2.1 := by omega
    rw [this]
    exact h40.2.1
  · have hn := hnode (by omega)
    have en : ((c.2.1 : Int)).toNat = c.2.1 := by omega
    have hnd : 0 ≤ (c.2.1 : Int) ∧ (c.2.1 : Int) < 5 := by omega
    have hb := R.1.2.1 c.2.1 hn
    refine gOk_rep (fun y => absurd (by omega) y) (fun n hn1 hn2 hn3 => gOk_chk (by omega) ?_)
    have hnc1 : n = c.2.1 := by omega
    subst hnc1
    have link : ∀ (y : Bool) (x33 : Int32), (3 ≤ c.1 ∧ c.1 ≤ 4) → D = zaLink S c.2.1 c.2.2 y → decide (x33 ≠ 0) = y → gOk (gBp (mX3_setCut nc 0 a2 a3 x33 μ) fun μ38 => some (.inr μ38)) (fun (q : Sum (String × gM) gM) => ∃ μ', q = .inr μ' ∧ gFr (rbP 0) μ μ' ∧ RB μ' 0 D.2.2) := fun y x33 hc hv hx => by
      rw [hv] at h0 ⊢
      have hl := zaLink_0.mp h0
      have e3 := h3 ⟨by omega, by omega⟩
      refine gOk_bp (mX3_setCut_ok R.1 (c := c.2.1) (d := c.2.2) hn (by omega) h2 e3) (fun μ38 h38 => gOk_some ⟨μ38, rfl, h38.1.up npP_rb, ?_⟩)
      rw [hx] at h38
      unfold zaLink
      rw [if_neg (fun t => t ⟨hl.1, hl.2.1⟩), if_neg hl.2.2]
      exact h38.2
    refine gOk_eq h1 (y := 1) (b := 1) rfl (fun z1 => ?_) (fun z1 => ?_)
    · have hv : D = zaCrash S c.2.1 := by
        rcases hd with ⟨u, v⟩ | ⟨u, v⟩ | ⟨u, v⟩ | ⟨u, v⟩ | ⟨u, v⟩ | ⟨u, v⟩ | ⟨u, v⟩ <;> first | exact v | (exfalso; omega)
      rw [hv] at h0 ⊢
      have ht := zaCrash_0.mp h0
      refine gOk_bp (mX4_goDown_ok hb) (fun μ7 h7 => gOk_some ⟨μ7, rfl, h7.1.up (bnP_rb hn), ?_⟩)
      unfold zaCrash
      rw [if_neg (fun t => t ht.1), if_neg (by rw [ht.2]; decide), en]
      exact R.1.node hn h7.1 h7.2
    · refine gOk_eq h1 (y := 2) (b := 2) rfl (fun z2 => ?_) (fun z2 => ?_)
      · have hv : D = zaBack S c.2.1 := by
          rcases hd with ⟨u, v⟩ | ⟨u, v⟩ | ⟨u, v⟩ | ⟨u, v⟩ | ⟨u, v⟩ | ⟨u, v⟩ | ⟨u, v⟩ <;> first | exact v | (exfalso; omega)
        rw [hv] at h0 ⊢
        have ht := zaBack_0.mp h0
        refine gOk_bp (mX0_revive_ok R.1 hn) (fun μ10 h10 => gOk_some ⟨μ10, rfl, h10.1.up (bnP_rb hn), ?_⟩)
        unfold zaBack
        rw [if_neg (fun t => t ht.1), if_neg (by rw [ht.2]; decide), en]
        exact h10.2
      · refine gOk_eq h1 (y := 3) (b := 3) rfl (fun z3 => gOk_lee (fun x12 h12 => link true x12 (by omega) ?_ ?_)) (fun z3 => ?_)
        · rcases hd with ⟨u, v⟩ | ⟨u, v⟩ | ⟨u, v⟩ | ⟨u, v⟩ | ⟨u, v⟩ | ⟨u, v⟩ | ⟨u, v⟩ <;> first | exact v | (exfalso; omega)
        · have : a1 = 3 := ti_eq (h1.trans (by rw [show c.1 = 3 by omega]; rfl)) rfl
          rw [h12, if_pos this]; rfl
        · refine gOk_eq h1 (y := 4) (b := 4) rfl (fun z4 => gOk_lee (fun x19 h19 => link false x19 (by omega) ?_ ?_)) (fun z4 => ?_)
          · rcases hd with ⟨u, v⟩ | ⟨u, v⟩ | ⟨u, v⟩ | ⟨u, v⟩ | ⟨u, v⟩ | ⟨u, v⟩ | ⟨u, v⟩ <;> first | exact v | (exfalso; omega)
          · have : ¬ a1 = 3 := fun t => z3 (by rw [t] at h1; have : (3 : Int32).toInt = 3 := rfl; omega)
            rw [h19, if_neg this]; rfl
          · refine gOk_eq h1 (y := 5) (b := 5) rfl (fun z5 => ?_) (fun z5 => ?_)
            · have hv : D = zaSub S c.2.1 (Int32.ofNat c.2.2) := by
                rcases hd with ⟨u, v⟩ | ⟨u, v⟩ | ⟨u, v⟩ | ⟨u, v⟩ | ⟨u, v⟩ | ⟨u, v⟩ | ⟨u, v⟩ <;> first | exact v | (exfalso; omega)
              rw [hv] at h0 ⊢
              have ht := zaSub_0.mp h0
              rw [en] at ht
              have htm := (R.2.1.2.2.2.2.1 c.2.1 hn).1
              have e3 : a3 = Int32.ofNat c.2.2 := ti_of (h3 ⟨by omega, by omega⟩)
              rw [e3]
              have hz : zIL (B + 1) (zAdd S c.2.1 0 (Int32.ofNat c.2.2)) := R.2.1.add hn ht.2.1 ht.2.2 (fun c hc => by cases hc) ⟨by show ntm (zno S c.2.1) ≤ B + 1; omega, by show 0 ≤ 3; decide, fun r => absurd r (by show ¬ 0 = 1; decide), fun r => absurd r (by show ¬ 0 = 2; decide)⟩
              refine gOk_bd (mX0_add_ok R (by omega) hn ht.2.1 ht.2.2 (k := 0) rfl hz) (fun r27 μ28 hp => gOk_some ⟨μ28, rfl, hp.2.1.up (bnP_rb hn), ?_⟩)
              unfold zaSub
              rw [if_neg (fun t => t ht.1), en, if_neg (fun t => t ht.2.1), if_neg (by omega)]
              exact hp.2.2
            · refine gOk_eq h1 (y := 6) (b := 6) rfl (fun z6 => ?_) (fun z6 => absurd (by omega) z6)
              have hv : D = zaPack S c.2.1 := by
                rcases hd with ⟨u, v⟩ | ⟨u, v⟩ | ⟨u, v⟩ | ⟨u, v⟩ | ⟨u, v⟩ | ⟨u, v⟩ | ⟨u, v⟩ <;> first | exact v | (exfalso; omega)
              rw [hv] at h0 ⊢
              have hpk := mX6_pack_ok (nc := nc) (a1 := a2) R hnc.1
              rw [h2] at hpk
              obtain ⟨p, e, f, r⟩ := back h0 hpk
              have hrep : mX6_replicaAt nc a2 μ = some (.inr (5 * 0 + c.2.1)) := by
                obtain ⟨a, ea, pa⟩ := mX6_replicaAt_ok (nc := nc) μ a2
                rw [ea, pa.2 (by omega)]
                rw [show a2.toInt.toNat = c.2.1 by omega]
              unfold mX6_pack at e
              rw [hrep] at e
              have e : ((gChk (5 * 0 + c.2.1 < 5 * nc) (if (μ 11 (5 * 0 + c.2.1) 5) = 0 then some (Sum.inl ("java/lang/IllegalStateException", μ)) else gBd (mX1_packTo nc (5 * 0 + c.2.1) (μ 11 (5 * 0 + c.2.1) 9) μ) fun r6 μ7 => some (Sum.inr (r6, μ7)))) : Option (Sum (String × gM) (Int32 × gM))) = some (Sum.inr p) := e
              unfold gChk at e
              rw [if_pos (by omega)] at e
              by_cases t : (μ 11 (5 * 0 + c.2.1) 5) = 0
              · rw [if_pos t] at e; cases e
              · rw [if_neg t] at e
                obtain ⟨r6, μ7, e1, e2⟩ := gBd_s e
                rw [e1]
                cases e2
                exact gOk_some ⟨_, rfl, f, r⟩
/-- the cells that performing reaches, the class's -/
def pfC : Nat → Nat → Nat → Prop := fun f i j => rbP 0 f i j ∨ (i = 0 ∧ (f = 1 ∨ 3 ≤ f ∧ f ≤ 5))
theorem caP_pf : ∀ f i j, caP f i j → pfC f i j := fun f i j h => Or.inr ⟨h.1, by have := h.2; omega⟩
theorem rbP_pf : ∀ f i j, rbP 0 f i j → pfC f i j := fun f i j h => Or.inl h
theorem RB.low (h : RB μ q S) (F : ∀ f i j, 6 ≤ f → μ' f i j = μ f i j) : RB μ' q S := by
  obtain ⟨w, bn, c3, c4, c5, c8⟩ := h
  exact ⟨w.cg (fun j => F 9 q j (by omega)) (fun j => F 10 q j (by omega)) (fun f i j h1 _ => F f i j (by omega)), fun n hn => (bn n hn).same (fun f j h1 _ => F f _ j (by omega)), by rw [F 6 q 3 (by omega)]; exact c3, by rw [F 6 q 4 (by omega)]; exact c4, fun c h1 h2 => by rw [F 6 q _ (by omega)]; exact c5 c h1 h2, fun t ht => by rw [F 8 q t (by omega)]; exact c8 t ht⟩
theorem rbP_6 {q f i j : Nat} (h : rbP q f i j) : 6 ≤ f := by
  rcases h with z | z | z <;> omega
theorem mX6_perform_ok (h : BuC μ β len) (R : RY B μ 0 S) (hB : B + 5760 * 14 + 96 * 61 + 200 < 800000000) (hnc : 0 < nc ∧ nc ≤ 2) : gOk (mX6_perform nc μ) (fun q => (match q with | .inl p => p.2 1 0 4 = 0 | .inr p => p.2 1 0 4 = 0) ∧ cPost pfC μ [eUO] (zaPerf β len S) q) := by
  have hl80 := h.2.1
  have hl := zPs_len (β := β) (len := len) 80 0 (Nat.zero_le _)
  obtain ⟨cs, ok, pos, hps⟩ : ∃ cs ok pos, zPs β len 80 0 = (cs, ok, pos) := ⟨_, _, _, rfl⟩
  rw [hps] at hl
  have hl : 0 + 6 * cs.length ≤ len := hl
  have hcw : ∀ (k p : Nat) (c : Nat × Nat × Nat), c ∈ (zPs β len k p).1 → c.1 < 7 := by
    intro k
    induction k with
    | zero => intro p c hc; cases hc
    | succ k ih =>
      intro p c hc
      unfold zPs at hc
      by_cases z : (zCmd β len p).1 = true
      · rw [if_pos z] at hc
        have := (zCmd_ok z).2.2.1
        by_cases y : (zCmd β len p).2.1 < len
        · rw [if_pos y] at hc
          rcases List.mem_cons.mp hc with u | u
          · rw [u]; exact this
          · exact ih _ _ u
        · rw [if_neg y] at hc
          rw [List.mem_singleton.mp hc]; exact this
      · rw [if_neg z] at hc; cases hc
  have hcw : ∀ c, c ∈ cs → c.1 < 7 := fun c hc => hcw 80 0 c (by rw [hps]; exact hc)
  unfold mX6_perform
  refine gOk_bd (mX5_parse_ok h hps) (fun r2 μ3 hq => gOk_lee (fun μ4 h4 => ?_))
  obtain ⟨F3, q1, q2⟩ := hq
  have F3 : gFr caP μ μ3 := F3
  have q1 : ok = false → r2.toInt = -100 - (pos : Int) := q1
  have F4 : gFr pfC μ μ4 := (F3.up caP_pf).tr (by rw [h4]; exact gFr.w (Or.inr ⟨rfl, by omega⟩))
  have o4 : ∀ f i j, 6 ≤ f → μ4 f i j = μ f i j := fun f i j hf => by rw [h4, w3_o _ _ (by omega), F3 f i j (by unfold caP; omega)]
  have R4 : RB μ4 0 S := R.1.low o4
  have z4 : μ4 1 0 4 = 0 := by rw [h4, w3_at]
  cases ok with
  | false =>
    have q1 := q1 rfl
    have hres := zaPerf_err (S := S) hps
    refine gOk_jon (gOk_jon ?_)
    have hstop : (r2 ≤ (0 : Int32)) := Int32.le_iff_toInt_le.mpr (by rw [q1]; have : (0 : Int32).toInt = 0 := rfl; omega)
    show gOk (gFx2 _ (999999 + 1) 0 μ4) _
    unfold gFx2
    rw [if_pos hstop, hres]
    exact gOk_some ⟨z4, rfl, q1, F4, R4⟩
  | true =>
    obtain ⟨q2, rows⟩ := q2 rfl
    have q2 : r2.toInt = (cs.length : Int) := q2
    have rows : ∀ (i : Nat) (c : Nat × Nat × Nat), cs[i]? = some c → (μ3 3 0 i).toInt = (c.1 : Int) ∧ (μ3 4 0 i).toInt = (c.2.1 : Int) ∧ (3 ≤ c.1 ∧ c.1 ≤ 5 → (μ3 5 0 i).toInt = (c.2.2 : Int)) := rows
    refine gOk_jq (γ := gM) (fun μ6 => gFr pfC μ μ6 ∧ μ6 1 0 4 = 0 ∧ (zRun cs S).1 = true ∧ RB μ6 0 (zRun cs S).2) (fun μ6 hc => gOk_some ?_) (fun j7 hj7 => gOk_jq (γ := gM) (fun μ8 => gFr pfC μ μ8 ∧ μ8 1 0 4 = 0 ∧ ¬ (zRun cs S).1 = true ∧ RB μ8 0 (zRun cs S).2) (fun μ8 hc => gOk_some ?_) (fun j9 hj9 => ?_))
    · obtain ⟨c1, c2, c3, c4⟩ := hc
      rw [zaPerf_yes hps c3]
      exact ⟨c2, rfl, q2, c1, c4⟩
    · obtain ⟨c1, c2, c3, c4⟩ := hc
      rw [zaPerf_no hps c3]
      exact ⟨c2, (by show (1 : Nat) ≠ 0; decide), rfl, c1, c4⟩
    · refine gOk_fx2 (fun v (x10 : Int32) (μ11 : gM) => ∃ (i : Nat) (S' : sqSt), v = cs.length - i ∧ i ≤ cs.length ∧ x10.toInt = (i : Int) ∧ gFr (rbP 0) μ4 μ11 ∧ RB μ11 0 S' ∧ zIL (B + 5760 * i) S' ∧ zRun (cs.drop i) S' = zRun cs S) ?_ 1000000 cs.length _ _ (by omega) ⟨0, S, rfl, Nat.zero_le _, rfl, gFr.rf, R4, R.2.1, rfl⟩
      intro rec v x10 μ11 hI ih
      obtain ⟨i, S', hv, i1, i2, i3, i4, i5, i6⟩ := hI
      subst hv
      have low : ∀ f i j, f < 6 → μ11 f i j = μ4 f i j := fun f i j hf => i3 f i j (fun z => by have := rbP_6 z; omega)
      refine gOk_le q2 i2 (fun z => ?_) (fun z => ?_)
      · have hi : i = cs.length := by omega
        rw [hi, List.drop_length] at i6
        have i6 : (true, S') = zRun cs S := i6
        refine hj7 _ ⟨F4.tr (i3.up rbP_pf), by rw [low 1 0 4 (by omega)]; exact z4, by rw [← i6], by rw [← i6]; exact i4⟩
      · have hi : i < cs.length := by omega
        refine gOk_le (x := 16) (a := 16) rfl i2 (fun y => absurd y (by omega)) (fun _ => ?_)
        have hcs : cs.drop i = cs[i] :: cs.drop (i + 1) := List.drop_eq_getElem_cons hi
        have hrow := rows i cs[i] (List.getElem?_eq_getElem hi)
        have hw := hcw cs[i] (List.getElem_mem hi)
        rw [hcs] at i6
        generalize cs[i] = c at *
        have e : ∀ f, 3 ≤ f → f ≤ 5 → μ11 f 0 i = μ3 f 0 i := fun f f1 f2 => by rw [low f 0 i (by omega), h4, w3_o _ _ (by omega)]
        rw [← e 3 (by omega) (by omega), ← e 4 (by omega) (by omega), ← e 5 (by omega) (by omega)] at hrow
        obtain ⟨g1, g2, g3⟩ := hrow
        have p := ti_inb (n := 16) i2 (by omega)
        have R11 : RY (B + 5760 * i) μ11 0 S' := ⟨i4, i5, by omega⟩
        simp only [ti_cl i2]
        refine gOk_chk p (gOk_chk p (gOk_chk p (gOk_bp (mX6_isPossible_ok R11 hw g1 g2 g3) (fun r19 h19 => ?_))))
        have hrun : zRun (c :: cs.drop (i + 1)) S' = if (zDo c S').1 = 0 then zRun (cs.drop (i + 1)) (zDo c S').2.2 else (false, (zDo c S').2.2) := rfl
        refine gOk_t01 h19 (fun y => hj9 _ ⟨F4.tr (i3.up rbP_pf), by rw [low 1 0 4 (by omega)]; exact z4, ?_, ?_⟩) (fun y => ?_)
        · rw [if_neg y] at hrun
          rw [← i6, hrun]; exact fun t => by cases t
        · rw [if_neg y] at hrun
          rw [← i6, hrun]
          have : (zDo c S').2.2 = S' := by
            rcases zDo_at (S := S') hw with ⟨u, v⟩ | ⟨u, v⟩ | ⟨u, v⟩ | ⟨u, v⟩ | ⟨u, v⟩ | ⟨u, v⟩ | ⟨u, v⟩ <;> rw [v] at y ⊢
            · revert y; unfold zaTick; split <;> intro y <;> first | rfl | exact absurd rfl y
            · revert y; unfold zaCrash; split <;> (try split) <;> intro y <;> first | rfl | exact absurd rfl y
            · revert y; unfold zaBack; split <;> (try split) <;> intro y <;> first | rfl | exact absurd rfl y
            · revert y; unfold zaLink; split <;> (try split) <;> intro y <;> first | rfl | exact absurd rfl y
            · revert y; unfold zaLink; split <;> (try split) <;> intro y <;> first | rfl | exact absurd rfl y
            · revert y; unfold zaSub; split <;> (try split) <;> (try split) <;> intro y <;> first | rfl | exact absurd rfl y
            · revert y; unfold zaPack; split <;> (try split) <;> intro y <;> first | rfl | exact absurd rfl y
          show RB μ11 0 (zDo c S').2.2
          rw [this]; exact i4
        · rw [if_pos y] at hrun
          refine gOk_chk p (gOk_chk p (gOk_chk p (gOk_bx (mX6_carryOut_ok R11 (by omega) hnc hw g1 g2 g3 y) (fun x hx => ?_) (fun μ25 hx => ?_))))
          · obtain ⟨μ', e1, -⟩ := hx
            cases e1
          · obtain ⟨μ', e1, F25, R25⟩ := hx
            injection e1 with e1
            subst e1
            have e10 : (x10 + 1).toInt = ((i + 1 : Nat) : Int) := by rw [ti_add i2 (y := 1) (b := 1) rfl (by omega) (by omega)]; omega
            have I2 := i5.doit (c := c) hw
            have e57 : B + 5760 * i + 5760 = B + 5760 * (i + 1) := by omega
            rw [e57] at I2
            exact ih _ _ (cs.length - (i + 1)) (by omega) ⟨i + 1, (zDo c S').2.2, rfl, hi, e10, i3.tr F25, R25, I2, hrun.symm.trans i6⟩
end SqScr6
