/-! The class: ticks. -/
section SqCta
variable {μ μ' μ1 : gM} {n g b k i nc B t t1 s q kk : Nat} {l : List sqE} {a1 a2 a3 a4 : Int32} {e : sqE} {m : sqMs} {S S' : sqSt} {N : sqN} {h : sqH}
theorem RY.up {B' : Nat} (R : RY B μ q S) (hB : B ≤ B') (h : B' < 900000000) : RY B' μ q S := ⟨R.1, ⟨R.2.1.1, R.2.1.2.up hB⟩, h⟩
theorem mX6_isNode_ok {c : Nat} (h1 : a1.toInt = (c : Int)) (hc : c < 5) : gOk (mX6_isNode nc a1 μ) (fun r => r = 1) := by
  unfold mX6_isNode
  exact gOk_lt h1 (y := 0) (b := 0) rfl (fun z => absurd z (by omega)) (fun _ => gOk_le (x := 5) (a := 5) rfl h1 (fun z => absurd z (by omega)) (fun _ => gOk_some rfl))
theorem zIL.rcv {w : Nat} (I : zIL B S) (h1B : 1 ≤ B) (hm : (zms S)[w]? = some m) : zIL (B + 2) (zRcv (zDel S w) m) := by
  obtain ⟨⟨h, I0⟩, L⟩ := I
  have M := I0.2.2.2 m (List.mem_of_getElem? hm)
  have LMm := L.2.2.2.2.1 m (List.mem_of_getElem? hm)
  exact ⟨(I0.del w).rcv M, ((L.del w).rcv (I0.del w) M LMm h1B).1⟩
theorem zIL.cnt (I : zIL B S) (hn : n < 5) : zIL (B + 3) (zCnt S n) := by
  obtain ⟨⟨h, I0⟩, L⟩ := I
  exact ⟨I0.cnt hn, (L.cnt I0 hn).1⟩
/-- a message that is due is taken and received -/
theorem mX0_one_ok (h : RY B μ q S) (hB : B + 4 < 800000000) (h1B : 1 ≤ B) (hq : q < nc) (hnc : nc ≤ 2) {w : Nat} (h1 : a1.toInt = (w : Int)) (hm : (zms S)[w]? = some m) {β : Type} {Q : β → Prop} {j : gM → Option β} (hj : ∀ μ', gFr (rbP q) μ μ' → RB μ' q (zRcv (zDel S w) m) → gOk (j μ') Q) : gOk (
                gBp (mX3_remove nc q a1 μ) fun μ37 =>
                gLet (α := Nat) ((μ37 9 q 2).toNatClampNeg) fun t38 =>
                gChk (t38 < 42 * nc) <|
                gBp (mX6_isNode nc (μ37 19 t38 5) μ37) fun r42 =>
                if r42 = 0 then
                  j μ37
                else
                  gBp (mX6_isNode nc (μ37 19 t38 6) μ37) fun r45 =>
                  if r45 = 0 then
                    j μ37
                  else
                    gChk (inb (μ37 19 t38 6) 5) <|
                    gChk (inb (μ37 19 t38 6) 5) <|
                    gBd (mX0_receive nc q (5 * q + ((μ37 19 t38 6).toNatClampNeg)) t38 μ37) fun r50 μ51 =>
                    gBp (mX0_finish nc q (5 * q + ((μ37 19 t38 6).toNatClampNeg)) r50 μ51) fun μ53 =>
                    j μ53) Q := by
  obtain ⟨⟨hh, I0⟩, L⟩ := h.2.1
  have M := I0.2.2.2 m (List.mem_of_getElem? hm)
  have LMm := L.2.2.2.2.1 m (List.mem_of_getElem? hm)
  have hn := M.1.2.1
  refine gOk_bp (mX3_remove_ok h.1.1 hq hnc h1 hm) (fun μ37 h37 => ?_)
  obtain ⟨F37, W37, m37⟩ := h37
  have R37 : RB μ37 q (zDel S w) := h.1.net W37 (fun f i j z => F37 f i j (fun y => by have := y.2; omega))
  have n41 := W37.num hq (i := 41) (by omega)
  have r41 := W37.1.1 41 (by omega)
  have ne : nwP μ37 q 41 ≠ nwP μ37 q 40 := fun z => absurd (W37.1.2 41 40 (by omega) (by omega) z) (by omega)
  rw [← nwP_41]
  refine gOk_let (gOk_chk n41 ?_)
  have m37' : BM μ37 (nwP μ37 q 41) (zg (zDel S w)) m := m37
  have key := mX0_receive_ok R37 (I0.del w) (L.del w) (by omega) h1B hq hnc m37' r41 ne M LMm
  generalize nwP μ37 q 41 = t at *
  have e6 := m37.2.2.1
  refine gOk_bp (mX6_isNode_ok m37.2.1 M.1.1) (fun r42 h42 => gOk_if (fun z => absurd (h42.symm.trans z) (by decide)) (fun _ => ?_))
  refine gOk_bp (mX6_isNode_ok e6 hn) (fun r45 h45 => gOk_if (fun z => absurd (h45.symm.trans z) (by decide)) (fun _ => ?_))
  simp only [ti_cl e6]
  refine gOk_chk (ti_inb e6 hn) (gOk_chk (ti_inb e6 hn) (gOk_bd key (fun r50 μ51 hp => ?_)))
  obtain ⟨F51, P51⟩ := hp
  have F51 : gFr (rbP q) μ37 μ51 := F51
  exact gOk_bp (mX0_finish_ok (by omega) hq hnc hn P51) (fun μ53 h53 => hj μ53 ((F37.up npP_rb).tr (F51.tr h53.1)) h53.2)
theorem RB.time (h : RB μ q S) {T : Nat} {x : Int32} (hx : x.toInt = (T : Int)) : RB (w3 μ 6 q 4 x) q (zTi S T) := by
  obtain ⟨w, bn, c3, c4, c5, c8⟩ := h
  refine ⟨w.cg (fun j => w3_o _ _ (by omega)) (fun j => w3_o _ _ (by omega)) (fun f i j _ _ => w3_o _ _ (by omega)), fun n hn => (bn n hn).same (fun f j _ _ => w3_o _ _ (by omega)), by rw [w3_o _ _ (by omega)]; exact c3, by rw [w3_at]; exact hx, fun d d1 d2 => by rw [w3_o _ _ (by omega)]; exact c5 d d1 d2, fun t ht => by rw [w3_o _ _ (by omega)]; exact c8 t ht⟩
/-- one tick -/
theorem mX0_tick_ok (h : RY B μ q S) (hB : B + 200 < 800000000) (hq : q < nc) (hnc : nc ≤ 2) {β : Type} {Q : β → Prop} {j : gM → Option β} (hj : ∀ μ', gFr (rbP q) μ μ' → RY (B + 96) μ' q (zTick1 S) → gOk (j μ') Q) : gOk (
        gLet (α := gM) (w3 μ 6 q 4 ((μ 6 q 4) + 1)) fun μ7 =>
        gLet (α := Int32) (μ7 9 q 3) fun x9 =>
        gJon (fun (μ13 : gM) =>
            gJon (fun (μ15 : gM) =>
                j μ15) fun j16 =>
            gFx2 (fun rec19 (x17 : Int32) (μ18 : gM) =>
                if 5 ≤ x17 then
                  j16 μ18
                else
                  gChk (inb x17 5) <|
                  gChk (inb x17 5) <|
                  gBd (mX0_countDown nc q (5 * q + (x17.toNatClampNeg)) μ18) fun r24 μ25 =>
                  gBp (mX0_finish nc q (5 * q + (x17.toNatClampNeg)) r24 μ25) fun μ27 =>
                  rec19 (x17 + 1) μ27) 1000000 0 μ13) fun j14 =>
        gFx3 (fun rec31 (x28 : Int32) (x29 : Int32) (μ30 : gM) =>
            if x29 ≤ 0 then
              j14 μ30
            else
              gBp (mX3_isDue nc q x28 (μ30 6 q 4) μ30) fun r34 =>
              if r34 = 0 then
                rec31 (x28 + 1) (x29 + (-1)) μ30
              else
                gBp (mX3_remove nc q x28 μ30) fun μ37 =>
                gLet (α := Nat) ((μ37 9 q 2).toNatClampNeg) fun t38 =>
                gChk (t38 < 42 * nc) <|
                gBp (mX6_isNode nc (μ37 19 t38 5) μ37) fun r42 =>
                if r42 = 0 then
                  rec31 x28 (x29 + (-1)) μ37
                else
                  gBp (mX6_isNode nc (μ37 19 t38 6) μ37) fun r45 =>
                  if r45 = 0 then
                    rec31 x28 (x29 + (-1)) μ37
                  else
                    gChk (inb (μ37 19 t38 6) 5) <|
                    gChk (inb (μ37 19 t38 6) 5) <|
                    gBd (mX0_receive nc q (5 * q + ((μ37 19 t38 6).toNatClampNeg)) t38 μ37) fun r50 μ51 =>
                    gBp (mX0_finish nc q (5 * q + ((μ37 19 t38 6).toNatClampNeg)) r50 μ51) fun μ53 =>
                    rec31 x28 (x29 + (-1)) μ53) 1000000 0 x9 μ7) Q := by
  have htB := h.2.1.2.1
  have hc := h.2.1.2.2.2.2.2.2
  have e4 := h.1.2.2.2.1
  have e7 : ((μ 6 q 4) + 1).toInt = ((zti S + 1 : Nat) : Int) := by rw [ti_add e4 (y := 1) (b := 1) rfl (by omega) (by omega)]; omega
  refine gOk_lee (fun μ7 h7 => gOk_let ?_)
  have R7 : RY (B + 1) μ7 q (zTi S (zti S + 1)) := ⟨by rw [h7]; exact h.1.time e7, h.2.1.time, by omega⟩
  have F7 : gFr (rbP q) μ μ7 := by rw [h7]; exact gFr.w (rcP_rb _ _ 0 ⟨rfl, Or.inl rfl⟩)
  unfold zTick1 at hj
  have hms : zms (zTi S (zti S + 1)) = zms S := rfl
  rw [← hms] at hc hj
  generalize zTi S (zti S + 1) = S1 at *
  have e9 := R7.1.1.2.1
  refine gOk_jq (γ := gM) (fun μ13 => gFr (rbP q) μ μ13 ∧ RY (B + 81) μ13 q (zDlv (zms S1).length 0 S1)) (fun μ13 h13 => ?_) (fun j14 hj14 => ?_)
  · obtain ⟨F13, R13⟩ := h13
    generalize zDlv (zms S1).length 0 S1 = S5 at *
    refine gOk_jq (γ := gM) (fun μ15 => gFr (rbP q) μ μ15 ∧ RY (B + 96) μ15 q ((List.range 5).foldl zCnt S5)) (fun μ15 h15 => hj μ15 h15.1 h15.2) (fun j16 hj16 => ?_)
    refine gOk_fx2 (fun v (x17 : Int32) (μ18 : gM) => ∃ k, v = 5 - k ∧ k ≤ 5 ∧ x17.toInt = (k : Int) ∧ gFr (rbP q) μ μ18 ∧ RY (B + 81 + 3 * k) μ18 q ((List.range k).foldl zCnt S5)) ?_ 1000000 5 _ _ (by omega) ⟨0, rfl, Nat.zero_le _, rfl, F13, R13⟩
    intro rec v x17 μ18 hI ih
    obtain ⟨k, hv, k1, k2, k3, k4⟩ := hI
    subst hv
    refine gOk_le (x := 5) (a := 5) rfl k2 (fun z => ?_) (fun z => ?_)
    · have hk : k = 5 := by omega
      subst hk
      exact hj16 _ ⟨k3, k4⟩
    · have hk5 : k < 5 := by omega
      have hs : (List.range (k + 1)).foldl zCnt S5 = zCnt ((List.range k).foldl zCnt S5) k := by rw [List.range_succ, List.foldl_append]; rfl
      have e1 : (x17 + 1).toInt = ((k + 1 : Nat) : Int) := by rw [ti_add k2 (y := 1) (b := 1) rfl (by omega) (by omega)]; omega
      have next : ∀ μ' : gM, gFr (rbP q) μ μ' → RY (B + 81 + 3 * (k + 1)) μ' q (zCnt ((List.range k).foldl zCnt S5) k) → gOk (rec (x17 + 1) μ') Q := fun μ' f r => ih _ _ (5 - (k + 1)) (by omega) ⟨k + 1, rfl, by omega, e1, f, by rw [hs]; exact r⟩
      generalize (List.range k).foldl zCnt S5 = Sk at *
      have p5 := ti_inb (n := 5) k2 hk5
      simp only [ti_cl k2]
      refine gOk_chk p5 (gOk_chk p5 (gOk_bd (mX0_countDown_ok k4 (by omega) hq hnc hk5) (fun r24 μ25 hp => ?_)))
      obtain ⟨F25, P25⟩ := hp
      have F25 : gFr (rbP q) μ18 μ25 := F25
      exact gOk_bp (mX0_finish_ok (by omega) hq hnc hk5 P25) (fun μ27 h27 => next μ27 (k3.tr (F25.tr h27.1)) ⟨h27.2, k4.2.1.cnt hk5, by omega⟩)
  · refine gOk_fx3 (fun v (x28 : Int32) (x29 : Int32) (μ30 : gM) => ∃ (w : Nat) (S' : sqSt), v ≤ 40 ∧ x28.toInt = (w : Int) ∧ x29.toInt = (v : Int) ∧ gFr (rbP q) μ μ30 ∧ RY (B + 81 - 2 * v) μ30 q S' ∧ zDlv v w S' = zDlv (zms S1).length 0 S1 ∧ w + v ≤ (zms S').length) ?_ 1000000 (zms S1).length _ _ _ (by omega) ⟨0, S1, hc, rfl, e9, F7, R7.up (by omega) (by omega), rfl, by omega⟩
    intro rec v x28 x29 μ30 hI ih
    obtain ⟨w, S', k0, k1, k2, k3, k4, k5, k6⟩ := hI
    refine gOk_le k2 (y := 0) (b := 0) rfl (fun z => ?_) (fun z => ?_)
    · have hv : v = 0 := by omega
      subst hv
      have k5 : S' = _ := k5
      refine hj14 _ ⟨k3, ?_⟩
      rw [← k5]
      exact k4.up (by omega) (by omega)
    · obtain ⟨v', hv'⟩ : ∃ v', v = v' + 1 := ⟨v - 1, by omega⟩
      subst hv'
      obtain ⟨y, hye, hy⟩ := ti_pred k2
      rw [hye]
      have hlt : w < (zms S').length := by omega
      have hm := List.getElem?_eq_getElem hlt
      have hl40 := k4.1.1.2.2.1
      have e28 : (x28 + 1).toInt = ((w + 1 : Nat) : Int) := by rw [ti_add k1 (y := 1) (b := 1) rfl (by omega) (by omega)]; omega
      generalize (zms S')[w] = m at *
      refine gOk_bp (mX3_isDue_ok k4.1.1 hq k1 k4.1.2.2.2.1) (fun r34 h34 => ?_)
      have h34 := h34.1 m hm
      by_cases hd : mdu m ≤ zti S'
      · rw [if_pos (show ((mdu m : Nat) : Int) ≤ ((zti S' : Nat) : Int) by omega)] at h34
        refine gOk_if (fun y => absurd (h34.symm.trans y) (by decide)) (fun _ => ?_)
        rw [zDlv_due hm hd] at k5
        have hl2 : w + v' ≤ (zms (zRcv (zDel S' w) m)).length := by
          obtain ⟨n1, n2, l, n3, n4⟩ := zNew.rcv (S := zDel S' w) (m := m)
          have n5 : (zms (zDel S' w)).length = (zms S').length - 1 := List.length_eraseIdx_of_lt hlt
          rw [n3, List.length_append, n5]
          omega
        refine mX0_one_ok k4 (by omega) (by omega) hq hnc k1 hm (fun μ53 f r => ih _ _ _ v' (by omega) ⟨w, zRcv (zDel S' w) m, by omega, k1, hy, k3.tr f, ⟨r, ?_, by omega⟩, k5, hl2⟩)
        have I2 := k4.2.1.rcv (by omega) hm
        rw [show B + 81 - 2 * (v' + 1) + 2 = B + 81 - 2 * v' by omega] at I2
        exact I2
      · rw [if_neg (show ¬ ((mdu m : Nat) : Int) ≤ ((zti S' : Nat) : Int) by omega)] at h34
        refine gOk_if (fun _ => ?_) (fun y => absurd h34 y)
        have k5' : zDlv v' (w + 1) S' = zDlv (zms S1).length 0 S1 := by
          rw [← k5]
          conv => rhs; unfold zDlv
          rw [hm]
          show _ = (if mdu m ≤ zti S' then zDlv v' w (zRcv (zDel S' w) m) else zDlv v' (w + 1) S')
          rw [if_neg hd]
        exact ih _ _ _ v' (by omega) ⟨w + 1, S', by omega, e28, hy, k3, k4.up (by omega) (by omega), k5', by omega⟩
theorem mX0_advance_ok (h : RY B μ q S) {T : Nat} (hT : T ≤ 60) (hB : B + 96 * T + 200 < 800000000) (hq : q < nc) (hnc : nc ≤ 2) (h1 : a1.toInt = (T : Int)) : gOk (mX0_advance nc q a1 μ) (fun μ' => gFr (rbP q) μ μ' ∧ RY (B + 96 * T) μ' q (zTick T S)) := by
  unfold mX0_advance
  refine gOk_jq (γ := gM) (fun μ1 => gFr (rbP q) μ μ1 ∧ RY (B + 96 * T) μ1 q (zTick T S)) (fun μ1 h1 => gOk_some h1) (fun j2 hj2 => ?_)
  refine gOk_fx2 (fun v (x3 : Int32) (μ4 : gM) => ∃ k S', v = T - k ∧ k ≤ T ∧ x3.toInt = (k : Int) ∧ gFr (rbP q) μ μ4 ∧ RY (B + 96 * k) μ4 q S' ∧ zTick (T - k) S' = zTick T S) ?_ 1000000 T _ _ (by omega) ⟨0, S, rfl, Nat.zero_le _, rfl, gFr.rf, h, rfl⟩
  intro rec v x3 μ4 hI ih
  obtain ⟨k, S', hv, k1, k2, k3, k4, k5⟩ := hI
  subst hv
  refine gOk_le h1 k2 (fun z => ?_) (fun z => ?_)
  · have hk : k = T := by omega
    subst hk
    rw [Nat.sub_self] at k5
    have k5 : S' = _ := k5
    rw [k5] at k4
    exact hj2 _ ⟨k3, k4⟩
  · have e3 : (x3 + 1).toInt = ((k + 1 : Nat) : Int) := by rw [ti_add k2 (y := 1) (b := 1) rfl (by omega) (by omega)]; omega
    rw [show T - k = (T - (k + 1)) + 1 by omega] at k5
    exact mX0_tick_ok k4 (by omega) hq hnc (fun μ' f r => ih _ _ (T - (k + 1)) (by omega) ⟨k + 1, zTick1 S', rfl, by omega, e3, k3.tr f, r.up (by omega) (by omega), k5⟩)
end SqCta
