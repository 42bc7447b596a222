/-! Scripts: what they are; the reference reads them so. -/
def zSee (β : Nat → Int32) (len p : Nat) (lo hi : Int) : Bool := decide (p < len ∧ lo ≤ (β p).toInt ∧ (β p).toInt ≤ hi)
/-- where the word ends -/
def zWe (β : Nat → Int32) (len : Nat) : Nat → Nat → Nat
  | 0, p => p
  | k + 1, p => if zSee β len p 97 122 = true then zWe β len k (p + 1) else p
/-- the row of words, seven letters each -/
def zTb (j : Nat) : Int32 := i2c ((jsB 31).getD j 0 &&& 255)
/-- some letters are a word -/
def zMt (β : Nat → Int32) (w p m : Nat) : Bool := decide (m ≤ 7) && (List.range 7).all (fun k => zTb (7 * w + k) == (if k < m then β (p + k) else 32))
theorem zMt_iff {β : Nat → Int32} {w p m : Nat} : zMt β w p m = true ↔ (m ≤ 7 ∧ ∀ k, k < 7 → zTb (7 * w + k) = if k < m then β (p + k) else 32) := by
  unfold zMt
  rw [Bool.and_eq_true, decide_eq_true_iff, List.all_eq_true]
  refine ⟨fun h => ⟨h.1, fun k hk => beq_iff_eq.mp (h.2 k (List.mem_range.mpr hk))⟩, fun h => ⟨h.1, fun k hk => beq_iff_eq.mpr (h.2 k (List.mem_range.mp hk))⟩⟩
def zWn (β : Nat → Int32) (p m : Nat) : Nat → Int
  | 0 => -1
  | w + 1 => if zMt β w p m = true then (w : Int) else zWn β p m w
/-- up to k digits: the number and where it ends -/
def zNm (β : Nat → Int32) (len : Nat) : Nat → Nat → Nat → Nat × Nat
  | 0, v, p => (v, p)
  | k + 1, v, p => if zSee β len p 48 57 = true then zNm β len k (10 * v + (β p).toInt.toNat - 48) (p + 1) else (v, p)
/-- a command: whether it is one, where it or the error is, the word and the numbers -/
def zC3 (β : Nat → Int32) (len w f s r : Nat) : Bool × Nat × Nat × Nat × Nat := if zSee β len r 59 59 = true then (true, r + 1, w, f, s) else (false, r, 0, 0, 0)
def zC2 (β : Nat → Int32) (len w q : Nat) : Bool × Nat × Nat × Nat × Nat :=
  if zSee β len q 48 57 = true then
    (if 3 ≤ w ∧ w ≤ 5 then
      (if zSee β len (zNm β len 3 0 q).2 44 44 = true then
        (if zSee β len ((zNm β len 3 0 q).2 + 1) 48 57 = true then zC3 β len w (zNm β len 3 0 q).1 (zNm β len 3 0 ((zNm β len 3 0 q).2 + 1)).1 (zNm β len 3 0 ((zNm β len 3 0 q).2 + 1)).2
        else (false, (zNm β len 3 0 q).2 + 1, 0, 0, 0))
      else (false, (zNm β len 3 0 q).2, 0, 0, 0))
    else zC3 β len w (zNm β len 3 0 q).1 0 (zNm β len 3 0 q).2)
  else (false, q, 0, 0, 0)
def zCmd (β : Nat → Int32) (len p : Nat) : Bool × Nat × Nat × Nat × Nat :=
  if zWn β p (zWe β len 80 p - p) 7 < 0 then (false, p, 0, 0, 0)
  else if zSee β len (zWe β len 80 p) 32 32 = true then zC2 β len (zWn β p (zWe β len 80 p - p) 7).toNat (zWe β len 80 p + 1)
  else (false, zWe β len 80 p, 0, 0, 0)
section SqScr
variable {μ μ' : gM} {β : Nat → Int32} {len p q k v w m n : Nat} {a1 a2 a3 : Int32}
theorem zSee_lt {lo hi : Int} (h : zSee β len p lo hi = true) : p < len ∧ lo ≤ (β p).toInt ∧ (β p).toInt ≤ hi := of_decide_eq_true h
theorem zWe_end : ∀ (k p : Nat), len ≤ p + k → zSee β len (zWe β len k p) 97 122 = false := by
  intro k
  induction k with
  | zero =>
    intro p h
    show zSee β len p 97 122 = false
    cases z : zSee β len p 97 122 with
    | false => rfl
    | true => have := (zSee_lt z).1; omega
  | succ k ih =>
    intro p h
    unfold zWe
    by_cases z : zSee β len p 97 122 = true
    · rw [if_pos z]; exact ih (p + 1) (by omega)
    · rw [if_neg z]; exact Bool.eq_false_iff.mpr z
theorem zWe_ge : ∀ (k p : Nat), p ≤ zWe β len k p ∧ (p ≤ len → zWe β len k p ≤ len) ∧ ∀ i, p ≤ i → i < zWe β len k p → 97 ≤ (β i).toInt ∧ (β i).toInt ≤ 122 := by
  intro k
  induction k with
  | zero => intro p; exact ⟨Nat.le_refl _, fun h => h, fun i h1 h2 => absurd h2 (Nat.not_lt.mpr h1)⟩
  | succ k ih =>
    intro p
    unfold zWe
    by_cases z : zSee β len p 97 122 = true
    · rw [if_pos z]
      obtain ⟨h1, h2, h3⟩ := ih (p + 1)
      have hz := zSee_lt z
      refine ⟨by omega, fun _ => h2 (by omega), fun i i1 i2 => ?_⟩
      by_cases y : i = p
      · subst y; exact hz.2
      · exact h3 i (by omega) i2
    · rw [if_neg z]
      exact ⟨Nat.le_refl _, fun h => h, fun i h1 h2 => absurd h2 (Nat.not_lt.mpr h1)⟩
theorem zNm_ge : ∀ (k v p : Nat), p ≤ (zNm β len k v p).2 ∧ (zNm β len k v p).2 ≤ p + k ∧ (zNm β len k v p).1 + 1 ≤ (v + 1) * 10 ^ k := by
  intro k
  induction k with
  | zero => intro v p; exact ⟨Nat.le_refl _, Nat.le_refl _, by show v + 1 ≤ (v + 1) * 1; omega⟩
  | succ k ih =>
    intro v p
    unfold zNm
    by_cases z : zSee β len p 48 57 = true
    · rw [if_pos z]
      obtain ⟨h1, h2, h3⟩ := ih (10 * v + (β p).toInt.toNat - 48) (p + 1)
      have hz := zSee_lt z
      refine ⟨by omega, by omega, Nat.le_trans h3 ?_⟩
      have h4 : 10 * v + (β p).toInt.toNat - 48 + 1 ≤ (v + 1) * 10 := by omega
      calc (10 * v + (β p).toInt.toNat - 48 + 1) * 10 ^ k ≤ ((v + 1) * 10) * 10 ^ k := Nat.mul_le_mul_right _ h4
        _ = (v + 1) * 10 ^ (k + 1) := by rw [Nat.mul_assoc, Nat.pow_succ, Nat.mul_comm (10 ^ k) 10]
    · rw [if_neg z]
      refine ⟨Nat.le_refl _, by show p ≤ p + (k + 1); omega, ?_⟩
      show v + 1 ≤ (v + 1) * 10 ^ (k + 1)
      have := Nat.one_le_pow (k + 1) 10 (by omega)
      exact Nat.le_mul_of_pos_right _ this
theorem zNm_999 (q : Nat) : (zNm β len 3 0 q).1 ≤ 999 := by
  have := (zNm_ge (β := β) (len := len) 3 0 q).2.2
  omega
/-- the reference's buffer -/
def BuR (μ : gM) (β : Nat → Int32) (len : Nat) : Prop := (μ 0 0 6).toInt = (len : Int) ∧ len ≤ 80 ∧ ∀ i, i < len → μ 5 0 i = β i
/-- the cells of the reference's reading -/
def scP : Nat → Nat → Nat → Prop := fun f i j => f = 0 ∧ i = 0 ∧ 7 ≤ j ∧ j ≤ 11
theorem BuR.fr (h : BuR μ β len) (F : gFr scP μ μ') : BuR μ' β len := by
  obtain ⟨h1, h2, h3⟩ := h
  exact ⟨by rw [F 0 0 6 (by unfold scP; omega)]; exact h1, h2, fun i hi => by rw [F 5 0 i (by unfold scP; omega)]; exact h3 i hi⟩
theorem mX7_sees_ok (h : BuR μ β len) {ok : Bool} (hw : μ 0 0 11 = if ok = true then 0 else 1) (hp : (μ 0 0 7).toInt = (p : Int)) {lo hi : Int} (h1 : a1.toInt = lo) (h2 : a2.toInt = hi) : gOk (mX7_sees a1 a2 μ) (fun r => r = if (ok && zSee β len p lo hi) = true then 1 else 0) := by
  obtain ⟨b1, b2, b3⟩ := h
  unfold mX7_sees
  cases ok with
  | false =>
    have hw : μ 0 0 11 = 1 := hw
    rw [hw]
    exact gOk_if (fun z => absurd z (by decide)) (fun _ => gOk_some rfl)
  | true =>
    have hw : μ 0 0 11 = 0 := hw
    rw [hw, Bool.true_and]
    refine gOk_if (fun _ => ?_) (fun z => absurd rfl z)
    unfold zSee
    refine gOk_le b1 hp (fun z => gOk_some ?_) (fun z => ?_)
    · rw [if_neg (by rw [decide_eq_true_eq]; omega)]
    · have e := b3 p (by omega)
      simp only [ti_cl hp, e]
      refine gOk_chk (ti_inb hp (by omega)) (gOk_lt (x := β p) rfl h1 (fun y => gOk_some ?_) (fun y => gOk_chk (ti_inb hp (by omega)) (gOk_lt h2 (y := β p) rfl (fun x => gOk_some ?_) (fun x => gOk_some ?_))))
      · rw [if_neg (by rw [decide_eq_true_eq]; omega)]
      · rw [if_neg (by rw [decide_eq_true_eq]; omega)]
      · rw [if_pos (by rw [decide_eq_true_eq]; omega)]
theorem or01 (ok b : Bool) : ((if ok = true then (0 : Int32) else 1) ||| (if (if (ok && b) = true then (1 : Int32) else 0) = 0 then 1 else 0)) = if (ok && b) = true then 0 else 1 := by
  cases ok <;> cases b <;> decide
theorem mX7_must_ok (h : BuR μ β len) {ok : Bool} (hw : μ 0 0 11 = if ok = true then 0 else 1) (hp : (μ 0 0 7).toInt = (p : Int)) (hp8 : p ≤ 1000) {c : Int} (h1 : a1.toInt = c) : gOk (mX7_must a1 μ) (fun μ' => gFr (fun f i j => f = 0 ∧ i = 0 ∧ (j = 7 ∨ j = 11)) μ μ' ∧ (μ' 0 0 7).toInt = ((if (ok && zSee β len p c c) = true then p + 1 else p : Nat) : Int) ∧ μ' 0 0 11 = if (ok && zSee β len p c c) = true then 0 else 1) := by
  unfold mX7_must
  refine gOk_bp (mX7_sees_ok h hw hp h1 h1) (fun r2 h2 => gOk_lee (fun x3 h3 => ?_))
  have e11 : (μ 0 0 11) ||| x3 = if (ok && zSee β len p c c) = true then 0 else 1 := by
    rw [hw, h3, h2]
    exact or01 ok _
  rw [e11]
  refine gOk_chk (by split <;> decide) (gOk_lee (fun μ8 h8 => gOk_lee (fun x10 h10 => gOk_let (gOk_some ?_))))
  have e7 : μ8 0 0 7 = μ 0 0 7 := by rw [h8, w3_o _ _ (by omega)]
  rw [e7]
  refine ⟨?_, ?_, ?_⟩
  · rw [h8]
    exact (gFr.w ⟨rfl, rfl, by omega⟩).tr (gFr.w ⟨rfl, rfl, by omega⟩)
  · rw [w3_at, h10, h2]
    by_cases z : (ok && zSee β len p c c) = true
    · rw [if_pos z, if_pos z, if_neg (by decide), ti_add hp (y := 1) (b := 1) rfl (by omega) (by omega)]; omega
    · rw [if_neg z, if_neg z, if_pos rfl, ti_add hp (y := 0) (b := 0) rfl (by omega) (by omega)]; omega
  · rw [w3_o _ _ (by omega), h8, w3_at]
theorem mX7_passNumber_ok (h : BuR μ β len) {ok : Bool} (hw : μ 0 0 11 = if ok = true then 0 else 1) (hp : (μ 0 0 7).toInt = (p : Int)) (hp8 : p ≤ 1000) : gOk (mX7_passNumber μ) (fun q => gFr (fun f i j => f = 0 ∧ i = 0 ∧ (j = 7 ∨ j = 11)) μ q.2 ∧ (q.2 0 0 7).toInt = ((if (ok && zSee β len p 48 57) = true then (zNm β len 3 0 p).2 else p : Nat) : Int) ∧ q.2 0 0 11 = (if (ok && zSee β len p 48 57) = true then 0 else 1) ∧ q.1.toInt = ((if (ok && zSee β len p 48 57) = true then (zNm β len 3 0 p).1 else 0 : Nat) : Int)) := by
  unfold mX7_passNumber
  refine gOk_bp (mX7_sees_ok h hw hp (a1 := 48) (a2 := 57) (lo := 48) (hi := 57) rfl rfl) (fun r2 h2 => gOk_lee (fun x3 h3 => ?_))
  have e11 : (μ 0 0 11) ||| x3 = if (ok && zSee β len p 48 57) = true then 0 else 1 := by
    rw [hw, h3, h2]
    exact or01 ok _
  rw [e11]
  generalize hok : (ok && zSee β len p 48 57) = ok2 at *
  refine gOk_chk (by split <;> decide) (gOk_lee (fun μ8 h8 => ?_))
  have F8 : gFr (fun f i j => f = 0 ∧ i = 0 ∧ (j = 7 ∨ j = 11)) μ μ8 := by rw [h8]; exact gFr.w ⟨rfl, rfl, by omega⟩
  have e8 : μ8 0 0 11 = if ok2 = true then 0 else 1 := by rw [h8, w3_at]
  have e7 : (μ8 0 0 7).toInt = (p : Int) := by rw [h8, w3_o _ _ (by omega)]; exact hp
  refine gOk_jq2 (fun (x10 : Int32) (μ11 : gM) => gFr (fun f i j => f = 0 ∧ i = 0 ∧ (j = 7 ∨ j = 11)) μ μ11 ∧ μ11 0 0 11 = (if ok2 = true then 0 else 1) ∧ x10.toInt = ((if ok2 = true then (zNm β len 3 0 p).1 else 0 : Nat) : Int) ∧ (μ11 0 0 7).toInt = ((if ok2 = true then (zNm β len 3 0 p).2 else p : Nat) : Int)) (fun x10 μ11 hc => gOk_some ⟨hc.1, hc.2.2.2, hc.2.1, hc.2.2.1⟩) (fun j12 hj12 => ?_)
  refine gOk_fx3 (fun c (x13 : Int32) (x14 : Int32) (μ15 : gM) => ∃ (v q : Nat), c ≤ 3 ∧ x13.toInt = (v : Int) ∧ v + 1 ≤ 10 ^ (3 - c) ∧ x14.toInt = ((3 - c : Nat) : Int) ∧ q ≤ p + 3 ∧ (μ15 0 0 7).toInt = (q : Int) ∧ gFr (fun f i j => f = 0 ∧ i = 0 ∧ (j = 7 ∨ j = 11)) μ μ15 ∧ μ15 0 0 11 = (if ok2 = true then 0 else 1) ∧ (ok2 = true → zNm β len c v q = zNm β len 3 0 p) ∧ (ok2 = false → v = 0 ∧ q = p)) ?_ 1000000 3 _ _ _ (by omega) ⟨0, p, Nat.le_refl _, rfl, by decide, rfl, by omega, e7, F8, e8, fun _ => rfl, fun _ => ⟨rfl, rfl⟩⟩
  intro rec c x13 x14 μ15 hI ih
  obtain ⟨v, q, c0, c1, c2, c3, c4, c5, c6, c7, c8, c9⟩ := hI
  have hv : v ≤ 999 := by
    rcases (show c = 0 ∨ c = 1 ∨ c = 2 ∨ c = 3 by omega) with z | z | z | z <;> subst z <;> simp at c2 <;> omega
  have h15 : BuR μ15 β len := h.fr (c6.up (fun f i j z => ⟨z.1, z.2.1, by omega⟩))
  have done : (ok2 = true → zNm β len c v q = (v, q)) → gOk (j12 x13 μ15) _ := fun hz => hj12 x13 μ15 ⟨c6, c7, by
    by_cases z : ok2 = true
    · rw [if_pos z, ← c8 z, hz z]; exact c1
    · rw [if_neg z, c1, (c9 (Bool.eq_false_iff.mpr z)).1], by
    by_cases z : ok2 = true
    · rw [if_pos z, ← c8 z, hz z]; exact c5
    · rw [if_neg z, c5, (c9 (Bool.eq_false_iff.mpr z)).2]⟩
  refine gOk_le (x := 3) (a := 3) rfl c3 (fun z => done (fun _ => ?_)) (fun z => ?_)
  · have : c = 0 := by omega
    subst this; rfl
  · obtain ⟨c', rfl⟩ : ∃ c', c = c' + 1 := ⟨c - 1, by omega⟩
    refine gOk_bp (mX7_sees_ok h15 c7 c5 (a1 := 48) (a2 := 57) (lo := 48) (hi := 57) rfl rfl) (fun r19 h19 => ?_)
    by_cases y : (ok2 && zSee β len q 48 57) = true
    · rw [if_pos y] at h19
      refine gOk_if (fun x => absurd (h19.symm.trans x) (by decide)) (fun _ => ?_)
      obtain ⟨y1, y2⟩ := Bool.and_eq_true_iff.mp y
      have hz := zSee_lt y2
      have e5 := h15.2.2 q hz.1
      have e8' := h15.2.1
      simp only [ti_cl c5, e5]
      refine gOk_chk (ti_inb c5 (by omega)) (gOk_lee (fun x22 h22 => gOk_lee (fun μ26 h26 => ?_)))
      have e22 : x22.toInt = ((10 * v + (β q).toInt.toNat - 48 : Nat) : Int) := by
        rw [h22, ti_sub (ti_add (ti_mul (x := 10) (a := 10) rfl c1 (by omega) (by omega)) (y := β q) rfl (by omega) (by omega)) (y := 48) (b := 48) rfl (by omega) (by omega)]; omega
      have e26 : (μ26 0 0 7).toInt = ((q + 1 : Nat) : Int) := by rw [h26, w3_at, ti_add c5 (y := 1) (b := 1) rfl (by omega) (by omega)]; omega
      have e14 : (x14 + 1).toInt = ((3 - c' : Nat) : Int) := by rw [ti_add c3 (y := 1) (b := 1) rfl (by omega) (by omega)]; omega
      have hzn : zNm β len (c' + 1) v q = zNm β len c' (10 * v + (β q).toInt.toNat - 48) (q + 1) := by
        conv => lhs; unfold zNm
        rw [if_pos y2]
      have hq3 : q + 1 ≤ p + 3 := by
        have := (zNm_ge (β := β) (len := len) c' (10 * v + (β q).toInt.toNat - 48) (q + 1)).1
        rw [← hzn, c8 y1] at this
        have := (zNm_ge (β := β) (len := len) 3 0 p).2.1
        omega
      have hp10 : 10 * v + (β q).toInt.toNat - 48 + 1 ≤ 10 ^ (3 - c') := by
        have e10 : 10 ^ (3 - c') = 10 ^ (3 - (c' + 1)) * 10 := by rw [← Nat.pow_succ]; congr 1; omega
        rw [e10]; omega
      refine ih _ _ _ c' (by omega) ⟨10 * v + (β q).toInt.toNat - 48, q + 1, by omega, e22, hp10, e14, hq3, e26, c6.tr (by rw [h26]; exact gFr.w ⟨rfl, rfl, by omega⟩), by rw [h26, w3_o _ _ (by omega)]; exact c7, fun _ => by rw [← hzn]; exact c8 y1, fun x => by rw [y1] at x; cases x⟩
    · rw [if_neg y] at h19
      refine gOk_if (fun _ => done (fun x => ?_)) (fun x => absurd h19 x)
      conv => lhs; unfold zNm
      rw [if_neg (fun u => y (by rw [x, u]; rfl))]
theorem zTb_nar : ∀ j : Fin 49, vp_nar .char (zTb j.val) = zTb j.val := by decide +kernel
theorem mX7_isWord_ok (h : BuR μ β len) (hw : w < 7) (h1 : a1.toInt = (w : Int)) (h2 : a2.toInt = (p : Int)) (h3 : a3.toInt = (m : Int)) (hm : p + m ≤ len) : gOk (mX7_isWord a1 a2 a3 μ) (fun r => r = if zMt β w p m = true then 1 else 0) := by
  have hl80 := h.2.1
  unfold mX7_isWord
  refine gOk_lee (fun x1 hx1 => gOk_jq (γ := Int32) (fun x5 => x5 = if zMt β w p m = true then 1 else 0) (fun x5 hc => gOk_chk (by rw [hc]; split <;> decide) (gOk_some hc)) (fun j6 hj6 => ?_))
  have e1 : x1 = if m ≤ 7 then 1 else 0 := by
    rw [hx1]
    by_cases z : m ≤ 7
    · rw [if_pos z, if_neg (fun y => by have := Int32.lt_iff_toInt_lt.mp y; rw [h3] at this; have e7 : (7 : Int32).toInt = 7 := rfl; omega)]
    · rw [if_neg z, if_pos (Int32.lt_iff_toInt_lt.mpr (by rw [h3]; have e7 : (7 : Int32).toInt = 7 := rfl; omega))]
  refine gOk_fx2 (fun v (x8 : Int32) (x9 : Int32) => ∃ k : Nat, v = 7 - k ∧ k ≤ 7 ∧ x9.toInt = (k : Int) ∧ ((x8 = 1 ∧ m ≤ 7 ∧ ∀ j, j < k → zTb (7 * w + j) = if j < m then β (p + j) else 32) ∨ (x8 = 0 ∧ ¬ (m ≤ 7 ∧ ∀ j, j < 7 → zTb (7 * w + j) = if j < m then β (p + j) else 32)))) ?_ 1000000 7 _ _ (by omega) ⟨0, rfl, Nat.zero_le _, rfl, ?_⟩
  · intro rec v x8 x9 hI ih
    obtain ⟨k, hv, k1, k2, k3⟩ := hI
    subst hv
    have k0 := zMt_iff (β := β) (w := w) (p := p) (m := m)
    refine gOk_le (x := 7) (a := 7) rfl k2 (fun z => hj6 _ ?_) (fun z => ?_)
    · rcases k3 with ⟨y1, y2, y3⟩ | ⟨y1, y2⟩
      · rw [y1, if_pos (k0.mpr ⟨y2, fun j hj => y3 j (by omega)⟩)]
      · rw [y1, if_neg (fun u => y2 (k0.mp u))]
    · rcases k3 with ⟨y1, y2, y3⟩ | ⟨y1, y2⟩
      · rw [y1]
        refine gOk_if (fun u => absurd u (by decide)) (fun _ => ?_)
        have e7 : ((7 * a1) + x9).toInt = ((7 * w + k : Nat) : Int) := by rw [ti_add (ti_mul (x := 7) (a := 7) rfl h1 (by omega) (by omega)) k2 (by omega) (by omega)]; omega
        have hj49 : 7 * w + k < 49 := by omega
        have e9 : (x9 + 1).toInt = ((k + 1 : Nat) : Int) := by rw [ti_add k2 (y := 1) (b := 1) rfl (by omega) (by omega)]; omega
        refine gOk_chk (ti_inb e7 hj49) (gOk_chk (Int32.lt_iff_toInt_lt.mpr ?_) ?_)
        · rw [e7]
          have : (Int32.ofNat (jsB 31).length).toInt = 49 := by decide +kernel
          omega
        · simp only [ti_cl e7]
          refine gOk_chk (zTb_nar ⟨7 * w + k, hj49⟩) (gOk_lee (fun x16 h16 => ?_))
          have h16 : x16 = zTb (7 * w + k) := h16
          refine gOk_jq (γ := Int32) (fun x20 => x20 = if k < m then β (p + k) else 32) (fun x20 hc => gOk_lee (fun x22 h22 => ih _ _ (7 - (k + 1)) (by omega) ⟨k + 1, rfl, by omega, e9, ?_⟩)) (fun j21 hj21 => ?_)
          · rw [h16, hc] at h22
            by_cases u : zTb (7 * w + k) = if k < m then β (p + k) else 32
            · rw [if_pos u] at h22
              refine Or.inl ⟨h22, y2, fun j hj => ?_⟩
              by_cases x : j = k
              · subst x; exact u
              · exact y3 j (by omega)
            · rw [if_neg u] at h22
              exact Or.inr ⟨h22, fun x => u (x.2 k (by omega))⟩
          · refine gOk_le h3 k2 (fun u => hj21 _ ?_) (fun u => ?_)
            · rw [if_neg (by omega)]
            · have e2 : (a2 + x9).toInt = ((p + k : Nat) : Int) := by rw [ti_add h2 k2 (by omega) (by omega)]; omega
              simp only [ti_cl e2, h.2.2 (p + k) (by omega)]
              refine gOk_chk (ti_inb e2 (by omega)) (hj21 _ ?_)
              rw [if_pos (by omega)]
      · rw [y1]
        refine gOk_if (fun _ => hj6 _ ?_) (fun u => absurd rfl u)
        rw [if_neg (fun u => y2 (k0.mp u))]
  · by_cases z : m ≤ 7
    · rw [if_pos z] at e1
      exact Or.inl ⟨e1, z, fun j hj => absurd hj (Nat.not_lt_zero j)⟩
    · rw [if_neg z] at e1
      exact Or.inr ⟨e1, fun y => z y.1⟩
end SqScr
