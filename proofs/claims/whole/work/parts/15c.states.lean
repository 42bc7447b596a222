/-! what holds from call to call -/
def zB (n : Nat) : Nat := 1 + 80000 * n
theorem zB_1 {n : Nat} : zB (n + 1) = zB n + 80000 := by
  show 1 + 80000 * (n + 1) = 1 + 80000 * n + 80000
  rw [Nat.mul_add, Nat.mul_one, Nat.add_assoc]
theorem zB_le {n m : Nat} (h : n ≤ m) : zB n ≤ zB m := Nat.add_le_add_left (Nat.mul_le_mul_left _ h) _
/-- after n calls -/
def zJ (n : Nat) (S : sqSt) : Prop := zIL (zB n) S ∧ zWq S ∧ zti S ≤ 800 * n
section ZJ
variable {n m i B len : Nat} {S S' : sqSt} {β : Nat → Int32} {a b w d g t : Int} {v : Int32} {x : Bool}
theorem zJ.up (h : zJ n S) (hm : n ≤ m) : zJ m S := ⟨h.1.up (zB_le hm), h.2.1, by have := h.2.2; omega⟩
theorem zJ.next (h : zJ n S) (I : zIL B S') (hB : B ≤ zB n + 74880) (hz : zw1 S S' ∧ zti S' ≤ zti S + 800) : zJ (n + 1) S' := ⟨I.up (by rw [zB_1]; omega), zw1.q h.2.1 hz.1, by have := h.2.2; have := hz.2; omega⟩
abbrev zWt (S S' : sqSt) : Prop := zw1 S S' ∧ zti S' ≤ zti S + 800
theorem zWt.rf : zWt S S := ⟨zw1.rf, Nat.le_add_right _ _⟩
theorem zWt.of (h : zw1 S S' ∧ zti S' ≤ zti S + 60) : zWt S S' := ⟨h.1, by have := h.2; omega⟩
theorem zwN (n : Nat) (N : sqN) : zWt S (zN S n N) := ⟨zw1.of rfl, Nat.le_add_right _ _⟩
theorem zw_aDelay : zWt S (zaDelay S d).2.2 := by
  unfold zaDelay
  split
  · exact ⟨zw1.of rfl, Nat.le_add_right _ _⟩
  · exact zWt.rf
theorem zw_aTick (I : zIL B S) : zWt S (zaTick S t).2.2 := by
  unfold zaTick
  split
  · rename_i h
    refine ⟨zw_tick _ _ _ I, ?_⟩
    show zti (zTick _ S) ≤ _
    rw [(zIL.tick _ _ _ I).2]
    omega
  · exact zWt.rf
theorem zw_aCrash : zWt S (zaCrash S a).2.2 := by
  unfold zaCrash
  split
  · exact zWt.rf
  · split
    · exact zWt.rf
    · exact zwN _ _
theorem zw_aBack : zWt S (zaBack S a).2.2 := by
  unfold zaBack
  split
  · exact zWt.rf
  · split
    · exact zWt.rf
    · exact zwN _ _
theorem zw_aLink : zWt S (zaLink S a b x).2.2 := by
  unfold zaLink
  split
  · exact zWt.rf
  · split
    · exact zWt.rf
    · exact ⟨zw1.of rfl, Nat.le_add_right _ _⟩
theorem zw_aSub : zWt S (zaSub S a v).2.2 := by
  unfold zaSub
  split
  · exact zWt.rf
  · split
    · exact zWt.rf
    · split
      · exact zWt.rf
      · exact zWt.of (zw_sub _ _ _ _)
theorem zw_aConf : zWt S (zaConf S a g).2.2 := by
  unfold zaConf
  split
  · exact zWt.rf
  · split
    · exact zWt.rf
    · split
      · exact zWt.rf
      · split
        · exact zWt.rf
        · exact zWt.of (zw_sub _ _ _ _)
theorem zw_aPack : zWt S (zaPack S a).2.2 := by
  unfold zaPack
  split
  · exact zWt.rf
  · split
    · exact zWt.rf
    · exact zwN _ _
theorem zw_aLose : zWt S (zaLose S w).2.2 := by
  unfold zaLose
  split
  · exact ⟨zw1.of rfl, Nat.le_add_right _ _⟩
  · exact zWt.rf
theorem zPs_cw : ∀ (k p : Nat) (c : Nat × Nat × Nat), c ∈ (zPs β len k p).1 → c.1 < 7 := by
  intro k
  induction k with
  | zero => intro p c hc; cases hc
  | succ k ih =>
    intro p c hc
    unfold zPs at hc
    by_cases z : (zCmd β len p).1 = true
    · rw [if_pos z] at hc
      have := (zCmd_ok z).2.2.1
      by_cases y : (zCmd β len p).2.1 < len
      · rw [if_pos y] at hc
        rcases List.mem_cons.mp hc with u | u
        · rw [u]; exact this
        · exact ih _ c u
      · rw [if_neg y] at hc
        rw [List.mem_singleton.mp hc]; exact this
    · rw [if_neg z] at hc
      cases hc
theorem zw_aPerf (I : zIL B S) (hl : len ≤ 80) : zWt S (zaPerf β len S).2.2 := by
  have h1 := zPs_len (β := β) (len := len) 80 0 (Nat.zero_le _)
  have h2 := zw_run (zPs β len 80 0).1 B S I (fun c hc => zPs_cw 80 0 c hc)
  have h3 : zWt S (zRun (zPs β len 80 0).1 S).2 := ⟨h2.1, by have := h2.2; omega⟩
  unfold zaPerf
  split
  · split
    · exact h3
    · exact h3
  · exact zWt.rf
theorem zJ_start (h : zJ n S) (hi : zIL B (zaStart S g v).2.2) (hB : B ≤ zB n + 74880) : zJ (n + 1) (zaStart S g v).2.2 := by
  unfold zaStart at hi ⊢
  split
  · rename_i h9
    rw [if_pos h9] at hi
    exact ⟨hi.up (by rw [zB_1]; omega), fun t => Or.inl rfl, Nat.zero_le _⟩
  · exact h.up (by omega)
/-- the codes -/
theorem zc_Start : (zaStart S g v).1 ≤ 1 := by unfold zaStart; (repeat' split) <;> exact Nat.le_of_ble_eq_true rfl
theorem zc_Delay : (zaDelay S d).1 ≤ 1 := by unfold zaDelay; (repeat' split) <;> exact Nat.le_of_ble_eq_true rfl
theorem zc_Tick : (zaTick S t).1 ≤ 1 := by unfold zaTick; (repeat' split) <;> exact Nat.le_of_ble_eq_true rfl
theorem zc_Crash : (zaCrash S a).1 ≤ 2 := by unfold zaCrash; (repeat' split) <;> exact Nat.le_of_ble_eq_true rfl
theorem zc_Back : (zaBack S a).1 ≤ 2 := by unfold zaBack; (repeat' split) <;> exact Nat.le_of_ble_eq_true rfl
theorem zc_Link : (zaLink S a b x).1 ≤ 2 := by unfold zaLink; (repeat' split) <;> exact Nat.le_of_ble_eq_true rfl
theorem zc_Sub : (zaSub S a v).1 ≤ 3 := by unfold zaSub; (repeat' split) <;> exact Nat.le_of_ble_eq_true rfl
theorem zc_Conf : (zaConf S a g).1 ≤ 4 := by unfold zaConf; (repeat' split) <;> exact Nat.le_of_ble_eq_true rfl
theorem zc_Pack : (zaPack S a).1 ≤ 2 := by unfold zaPack; (repeat' split) <;> exact Nat.le_of_ble_eq_true rfl
theorem zc_Lose : (zaLose S w).1 ≤ 1 := by unfold zaLose; (repeat' split) <;> exact Nat.le_of_ble_eq_true rfl
theorem zc_Perf : (zaPerf β len S).1 ≤ 1 := by unfold zaPerf; (repeat' split) <;> exact Nat.le_of_ble_eq_true rfl
theorem zc_Read : (zaRead S a).1 ≤ 3 := by unfold zaRead; (repeat' split) <;> exact Nat.le_of_ble_eq_true rfl
theorem zc_Node : (zaNode S a w).1 ≤ 2 := by unfold zaNode; (repeat' split) <;> exact Nat.le_of_ble_eq_true rfl
theorem zc_Noted : (zaNoted S a b w).1 ≤ 3 := by unfold zaNoted; (repeat' split) <;> exact Nat.le_of_ble_eq_true rfl
theorem zc_Ent : (zaEnt S a b w).1 ≤ 2 := by unfold zaEnt; (repeat' split) <;> exact Nat.le_of_ble_eq_true rfl
theorem zc_Msg : (zaMsg S a w).1 ≤ 2 := by unfold zaMsg; (repeat' split) <;> exact Nat.le_of_ble_eq_true rfl
theorem zc_Leader : (zaLeader S).1 ≤ 1 := by unfold zaLeader; (repeat' split) <;> exact Nat.le_of_ble_eq_true rfl
theorem zc_Win : (zaWin S t).1 ≤ 1 := by unfold zaWin; (repeat' split) <;> exact Nat.le_of_ble_eq_true rfl
theorem zc_Alike : (zaAlike S a b).1 ≤ 1 := by unfold zaAlike; (repeat' split) <;> exact Nat.le_of_ble_eq_true rfl
theorem zc_Stat : (zaStat S w).1 ≤ 1 := by unfold zaStat; (repeat' split) <;> exact Nat.le_of_ble_eq_true rfl
theorem zc_Share : (zaShare S a).1 ≤ 2 := by unfold zaShare; (repeat' split) <;> exact Nat.le_of_ble_eq_true rfl
/-- questions leave the state as it was -/
theorem zs_Read : (zaRead S a).2.2 = S := by unfold zaRead; (repeat' split) <;> rfl
theorem zs_Node : (zaNode S a w).2.2 = S := by unfold zaNode; (repeat' split) <;> rfl
theorem zs_Noted : (zaNoted S a b w).2.2 = S := by unfold zaNoted; (repeat' split) <;> rfl
theorem zs_Ent : (zaEnt S a b w).2.2 = S := by unfold zaEnt; (repeat' split) <;> rfl
theorem zs_Msg : (zaMsg S a w).2.2 = S := by unfold zaMsg; (repeat' split) <;> rfl
theorem zs_Leader : (zaLeader S).2.2 = S := by unfold zaLeader; (repeat' split) <;> rfl
theorem zs_Win : (zaWin S t).2.2 = S := by unfold zaWin; (repeat' split) <;> rfl
theorem zs_Alike : (zaAlike S a b).2.2 = S := by unfold zaAlike; (repeat' split) <;> rfl
theorem zs_Stat : (zaStat S w).2.2 = S := by unfold zaStat; (repeat' split) <;> rfl
end ZJ
/-- the class's world holds: the state, what was saved, the letters that wait, the text written last -/
def cSt (a0 : Nat) (S : sqSt) (sv : Option sqSt) (β : Nat → Int32) (len : Nat) (T : List Nat) (E : List (Nat × Nat)) (kd : Nat → gKd) (ad : Nat → Nat → Nat) (rh : gRh) (μ : gM) : Prop :=
  ∃ (nc cp N0 : Nat) (ada adb : Nat → Nat → Nat) (ml : Int32) (arr : Nat → Int32) (μc : gM), E = mxE sE (gE_C nc) ∧ kd = mxK (sKd cp N0) gkd_C ∧ ad = mxA ada adb ∧ rh = mxR sRh (grh_C nc) ∧ μ = mxM (sM T.length ml arr) μc ∧ adb 0 0 = a0 ∧ wI (gE_C nc) adb cp T ada cp 0 0 arr ∧ RB μc 0 S ∧ BuC μc β len ∧ ((nc = 1 ∧ sv = none) ∨ (nc = 2 ∧ ∃ S', sv = some S' ∧ RB μc 1 S'))
theorem cSt_fr {nc cp N0 : Nat} {ada adb : Nat → Nat → Nat} {ml : Int32} {arr : Nat → Int32} {μc μ' : gM} {S' : sqSt} {sv : Option sqSt} {β : Nat → Int32} {len : Nat} {T : List Nat} (hw : wI (gE_C nc) adb cp T ada cp 0 0 arr) (hBu : BuC μc β len) (hsv : (nc = 1 ∧ sv = none) ∨ (nc = 2 ∧ ∃ S', sv = some S' ∧ RB μc 1 S')) (F : gFr (rbP 0) μc μ') (R : RB μ' 0 S') : cSt (adb 0 0) S' sv β len T (mxE sE (gE_C nc)) (mxK (sKd cp N0) gkd_C) (mxA ada adb) (mxR sRh (grh_C nc)) (mxM (sM T.length ml arr) μ') :=
  ⟨nc, cp, N0, ada, adb, ml, arr, μ', rfl, rfl, rfl, rfl, rfl, rfl, hw, R, ⟨by rw [F 1 0 4 (fun z => by have := rbP_6 z; omega)]; exact hBu.1, hBu.2.1, fun i hi => by rw [F 2 0 i (fun z => by have := rbP_6 z; omega)]; exact hBu.2.2 i hi⟩, by
    rcases hsv with h | ⟨h, S9, h1, h2⟩
    · exact Or.inl h
    · exact Or.inr ⟨h, S9, h1, h2.fr (by decide) F⟩⟩
theorem hsv_nc {nc : Nat} {sv : Option sqSt} {μc : gM} (hsv : (nc = 1 ∧ sv = none) ∨ (nc = 2 ∧ ∃ S', sv = some S' ∧ RB μc 1 S')) : 0 < nc ∧ nc ≤ 2 := by
  rcases hsv with h | h <;> omega
/-- what a method of the law leaves: its code, the class's world, the number in the array -/
def lPo1 (a0 code : Nat) (val : Int) (S : sqSt) (sv : Option sqSt) (β : Nat → Int32) (len : Nat) (T : List Nat) : lPo := fun o E1 kd1 ad1 rh1 μ1 w8 _ => o = some (.int (nI code)) ∧ cSt a0 S sv β len T E1 kd1 ad1 rh1 μ1 ∧ (code = 0 → ∃ r : Int32, w8 = r.toInt64 ∧ r.toInt = val)
