/-! The reference's calls: setLink, reconfigure, leader, alike. -/
def zLead5 (S : sqSt) : Nat → Int
  | 0 => -1
  | j + 1 => if (nup (zno S j) = true ∧ nro (zno S j) = 2) ∧ (zLead5 S j < 0 ∨ ntm (zno S (zLead5 S j).toNat) < ntm (zno S j)) then (j : Int) else zLead5 S j
def zaLeader (S : sqSt) : sqRs := if zLead5 S 5 < 0 then (1, 0, S) else (0, zLead5 S 5, S)
def zAl (P : Nat → Bool) : Nat → Nat → Nat
  | 0, i => i
  | d + 1, i => if P (i + 1) then zAl P d (i + 1) else i
def zaAlike (S : sqSt) (a b : Int) : sqRs := if ¬ ((0 ≤ a ∧ a < 5) ∧ (0 ≤ b ∧ b < 5)) then (1, 0, S) else (0, if min (nlg (zno S a.toNat)).length (nlg (zno S b.toNat)).length < max (nbs (zno S a.toNat)) (nbs (zno S b.toNat)) then -1 else (zAl (fun i => sqTT (nlg (zno S a.toNat)) i == sqTT (nlg (zno S b.toNat)) i) (min (nlg (zno S a.toNat)).length (nlg (zno S b.toNat)).length - max (nbs (zno S a.toNat)) (nbs (zno S b.toNat))) (max (nbs (zno S a.toNat)) (nbs (zno S b.toNat))) : Int), S)
theorem sqMk_on (W : Nat → Bool) : ∀ v, v < 5 → Int32.ofNat (sqMk W) ||| (1 <<< (Int32.ofNat v &&& 31)) = Int32.ofNat (sqMk (fun u => if u = v then true else W u)) := by
  intro v hv
  have key : ∀ (b0 b1 b2 b3 b4 : Bool) (v : Fin 5), Int32.ofNat ((if b0 then 1 else 0) + (if b1 then 2 else 0) + (if b2 then 4 else 0) + (if b3 then 8 else 0) + (if b4 then 16 else 0)) ||| (1 <<< (Int32.ofNat v.val &&& 31)) = Int32.ofNat ((if (if 0 = v.val then true else b0) then 1 else 0) + (if (if 1 = v.val then true else b1) then 2 else 0) + (if (if 2 = v.val then true else b2) then 4 else 0) + (if (if 3 = v.val then true else b3) then 8 else 0) + (if (if 4 = v.val then true else b4) then 16 else 0)) := by decide +kernel
  exact key (W 0) (W 1) (W 2) (W 3) (W 4) ⟨v, hv⟩
theorem sqMk_off (W : Nat → Bool) : ∀ v, v < 5 → Int32.ofNat (sqMk W) &&& ((1 <<< (Int32.ofNat v &&& 31)) ^^^ (-1)) = Int32.ofNat (sqMk (fun u => if u = v then false else W u)) := by
  intro v hv
  have key : ∀ (b0 b1 b2 b3 b4 : Bool) (v : Fin 5), Int32.ofNat ((if b0 then 1 else 0) + (if b1 then 2 else 0) + (if b2 then 4 else 0) + (if b3 then 8 else 0) + (if b4 then 16 else 0)) &&& ((1 <<< (Int32.ofNat v.val &&& 31)) ^^^ (-1)) = Int32.ofNat ((if (if 0 = v.val then false else b0) then 1 else 0) + (if (if 1 = v.val then false else b1) then 2 else 0) + (if (if 2 = v.val then false else b2) then 4 else 0) + (if (if 3 = v.val then false else b3) then 8 else 0) + (if (if 4 = v.val then false else b4) then 16 else 0)) := by decide +kernel
  exact key (W 0) (W 1) (W 2) (W 3) (W 4) ⟨v, hv⟩
section SqApi5
variable {μ : gM} {S : sqSt} {B n k i : Nat} {a1 a2 a3 a4 a5 : Int32} {N : sqN} {A A' : Nat → Int32} {m : sqMs} {h : sqH}
theorem sqMk_i32 (W : Nat → Bool) : (Int32.ofNat (sqMk W)).toInt = (sqMk W : Int) := ti_nat (by have := sqMk_lt W; omega)
theorem RA.link (R : RA A S) (hZ : zIL B S) (hn : n < 5) (hi : i < 5) (hne : n ≠ i) {x : Bool} {u v : Int32} (hu : u = Int32.ofNat (sqMk (fun j => if j = i then x else zcu S n j))) (hv : v = Int32.ofNat (sqMk (fun j => if j = n then x else zcu S i j))) : RA (upd (upd A (4 + n) u) (4 + i) v) (zCu S n i x) := by
  obtain ⟨m1, m2⟩ := R.mv hZ (A' := upd (upd A (4 + n) u) (4 + i) v) (fun k a b => by rw [upd_ne _ _ (by omega), upd_ne _ _ (by omega)]) (fun k a b => by rw [upd_ne _ _ (by omega), upd_ne _ _ (by omega)])
  obtain ⟨g1, g2, g3, g4, g5, g6, g7⟩ := R.1
  refine ⟨⟨?_, ?_, ?_, ?_, fun j hj => ?_, fun k k1 k2 => ?_, fun t ht => ?_⟩, m1, m2⟩
  · rw [upd_ne _ _ (by omega), upd_ne _ _ (by omega)]; exact g1
  · rw [upd_ne _ _ (by omega), upd_ne _ _ (by omega)]; exact g2
  · rw [upd_ne _ _ (by omega), upd_ne _ _ (by omega)]; exact g3
  · rw [upd_ne _ _ (by omega), upd_ne _ _ (by omega)]; exact g4
  · show _ = (sqMk (sqU2 (sqU2 (zcu S) n i x) i n x j) : Int)
    by_cases q : j = i
    · subst q
      rw [upd_at, hv, sqMk_i32]
      congr 1
      apply sqMk_ext
      intro w _
      show (if w = n then x else zcu S j w) = (if j = j ∧ w = n then x else if j = n ∧ w = j then x else zcu S j w)
      by_cases z : w = n
      · rw [if_pos z, if_pos ⟨rfl, z⟩]
      · rw [if_neg z, if_neg (fun y => z y.2), if_neg (fun y => hne y.1.symm)]
    · rw [upd_ne _ _ (by omega)]
      by_cases q2 : j = n
      · subst q2
        rw [upd_at, hu, sqMk_i32]
        congr 1
        apply sqMk_ext
        intro w _
        show (if w = i then x else zcu S j w) = (if j = i ∧ w = j then x else if j = j ∧ w = i then x else zcu S j w)
        rw [if_neg (fun y : j = i ∧ w = j => q y.1)]
        by_cases z : w = i
        · rw [if_pos z, if_pos ⟨rfl, z⟩]
        · rw [if_neg z, if_neg (fun y => z y.2)]
      · rw [upd_ne _ _ (by omega), g5 j hj]
        congr 1
        apply sqMk_ext
        intro w _
        show zcu S j w = (if j = i ∧ w = n then x else if j = n ∧ w = i then x else zcu S j w)
        rw [if_neg (fun y => q y.1), if_neg (fun y => q2 y.1)]
  · rw [upd_ne _ _ (by omega), upd_ne _ _ (by omega)]; exact g6 k k1 k2
  · rw [upd_ne _ _ (by omega), upd_ne _ _ (by omega)]; exact g7 t ht
theorem mX7_link_in (R : RZ B (μ 1 0) S) (hn : n < 5) (hi : i < 5) (h1 : a1.toInt = (n : Int)) (h2 : a2.toInt = (i : Int)) : gOk (
        gLet (α := Int32) (if a1 = a2 then 1 else 0) fun x9 =>
        gBd (mX7_fails 2 x9 μ) fun r14 μ15 =>
        if r14 = 0 then
          gChk (inb (4 + a1) 1616) <|
          gBp (mX7_has (μ15 1 0 ((4 + a1).toNatClampNeg)) a2 μ15) fun r19 =>
          gJon (fun (x20 : Int32) =>
              gChk (inb (4 + a1) 1616) <|
              gLet (α := gM) (w3 μ15 1 0 ((4 + a1).toNatClampNeg) x20) fun μ23 =>
              gJon (fun (x25 : Int32) =>
                  gChk (inb (4 + a2) 1616) <|
                  gLet (α := gM) (w3 μ23 1 0 ((4 + a2).toNatClampNeg) x25) fun μ28 =>
                  gChk (r19 = 0 ∨ r19 = 1) <|
                  some (r19, μ28)) fun j26 =>
              if a3 = 0 then
                gChk (inb (4 + a2) 1616) <|
                j26 ((μ23 1 0 ((4 + a2).toNatClampNeg)) &&& ((1 <<< (a1 &&& 31)) ^^^ (-1)))
              else
                gChk (inb (4 + a2) 1616) <|
                j26 ((μ23 1 0 ((4 + a2).toNatClampNeg)) ||| (1 <<< (a1 &&& 31)))) fun j21 =>
          if a3 = 0 then
            gChk (inb (4 + a1) 1616) <|
            j21 ((μ15 1 0 ((4 + a1).toNatClampNeg)) &&& ((1 <<< (a2 &&& 31)) ^^^ (-1)))
          else
            gChk (inb (4 + a1) 1616) <|
            j21 ((μ15 1 0 ((4 + a1).toNatClampNeg)) ||| (1 <<< (a2 &&& 31)))
        else
          some (0, μ15)) (rPost μ B (if a1.toInt = a2.toInt then (2, 0, S) else (0, if zcu S n i then 1 else 0, zCu S n i (decide (a3 ≠ 0))))) := by
  refine gOk_guard (fun q => ?_) (fun q => ?_)
  · rw [if_neg (fun z => q (Int32.toInt_inj.mp z))]
    have hne : n ≠ i := fun z => q (ti_eq h1 (by rw [h2, z]))
    have R1 := R.th (k := 0)
    have F0 : gF2 (w3 μ 0 0 0 0) (w3 μ 0 0 0 0) := gF2.rf
    generalize hμ : w3 μ 0 0 0 0 = μ1 at *
    have g5 := R1.1.1.2.2.2.2.1
    have e4 : (4 + a1).toInt = ((4 + n : Nat) : Int) := by rw [ti_add (x := 4) (a := 4) rfl h1 (by omega) (by omega)]; omega
    have e4' : (4 + a2).toInt = ((4 + i : Nat) : Int) := by rw [ti_add (x := 4) (a := 4) rfl h2 (by omega) (by omega)]; omega
    refine gOk_chk (ti_inb e4 (by omega)) ?_
    simp only [ti_cl e4, ti_cl e4']
    refine gOk_bp (mX7_has_ok μ1 (sqMk_lt (zcu S n)) hi (g5 n hn) h2) (fun r19 h19 => ?_)
    rw [sqMk_bit _ _ hi] at h19
    have hb : r19 = 0 ∨ r19 = 1 := by
      rw [h19]; split
      · exact Or.inr rfl
      · exact Or.inl rfl
    have hv : r19.toInt = if zcu S n i = true then 1 else 0 := by
      rw [h19]; split <;> rfl
    refine gOk_jq (γ := Int32) (fun u => u = Int32.ofNat (sqMk (fun j => if j = i then decide (a3 ≠ 0) else zcu S n j))) (fun u hu => ?_) (fun j21 hj21 => ?_)
    · refine gOk_chk (ti_inb e4 (by omega)) (gOk_let ?_)
      refine gOk_jq (γ := Int32) (fun v => v = Int32.ofNat (sqMk (fun j => if j = n then decide (a3 ≠ 0) else zcu S i j))) (fun v hv' => ?_) (fun j26 hj26 => ?_)
      · refine gOk_chk (ti_inb e4' (by omega)) (gOk_let (gOk_chk hb (gOk_some ?_)))
        subst hμ
        refine rPost_yes (gF1.w.tr gF1.w).two hv ⟨?_, ?_, R.2.2⟩
        · simp only [w3_10]
          exact R1.1.link R1.2.1 hn hi hne hu hv'
        · exact R.2.1
      · have e : w3 μ1 1 0 (4 + n) u 1 0 (4 + i) = Int32.ofNat (sqMk (zcu S i)) := by
          rw [w3_10, upd_ne _ _ (by omega)]; exact ti_of (g5 i hi)
        rw [e]
        refine gOk_if (fun z => gOk_chk (ti_inb e4' (by omega)) (hj26 _ ?_)) (fun z => gOk_chk (ti_inb e4' (by omega)) (hj26 _ ?_))
        · rw [ti_of h1, sqMk_off _ n hn, decide_eq_false (fun y => y z)]
        · rw [ti_of h1, sqMk_on _ n hn, decide_eq_true z]
    · have e : μ1 1 0 (4 + n) = Int32.ofNat (sqMk (zcu S n)) := ti_of (g5 n hn)
      rw [e]
      refine gOk_if (fun z => gOk_chk (ti_inb e4 (by omega)) (hj21 _ ?_)) (fun z => gOk_chk (ti_inb e4 (by omega)) (hj21 _ ?_))
      · rw [ti_of h2, sqMk_off _ i hi, decide_eq_false (fun y => y z)]
      · rw [ti_of h2, sqMk_on _ i hi, decide_eq_true z]
  · rw [if_pos (by rw [q])]
    exact gOk_some (rPost_no R rfl (by omega) 0)
theorem mX7_setLink_ok (R : RZ B (μ 1 0) S) : gOk (mX7_setLink a1 a2 a3 μ) (rPost μ B (zaLink S a1.toInt a2.toInt (decide (a3 ≠ 0)))) := by
  unfold mX7_setLink zaLink
  refine gOk_bp (mX7_isNode_ok μ a1) (fun r2 h2 => gOk_jon (gOk_jon (gOk_if (fun q => ?_) (fun q => ?_))))
  · rw [if_pos (fun z => (h2.2.mp q) z.1)]
    exact gOk_fails (Or.inr rfl) (fun z => absurd z (by decide)) (fun _ => gOk_if (fun z => absurd z (by decide)) (fun _ => gOk_some (rPost_no R rfl (by omega) 0)))
  · have hc : 0 ≤ a1.toInt ∧ a1.toInt < 5 := Classical.byContradiction fun z => q (h2.2.mpr z)
    refine gOk_bp (mX7_isNode_ok μ a2) (fun r41 h41 => gOk_guard (fun q2 => ?_) (fun q2 => ?_))
    · have hc2 : 0 ≤ a2.toInt ∧ a2.toInt < 5 := Classical.byContradiction fun z => q2 (h41.2.mpr z)
      rw [if_neg (show ¬ ¬ ((0 ≤ a1.toInt ∧ a1.toInt < 5) ∧ (0 ≤ a2.toInt ∧ a2.toInt < 5)) from fun z => z ⟨hc, hc2⟩)]
      obtain ⟨n, hn, h1, he⟩ := nd_of hc
      obtain ⟨i, hi, h1', he'⟩ := nd_of hc2
      have key := mX7_link_in (a3 := a3) (R.th (k := 0)) hn hi h1 h1'
      rw [he, he']
      exact gOk_imp key (fun q h => rPost.th h)
    · rw [if_pos (fun z => (h41.2.mp q2) z.2)]
      exact gOk_some (rPost_no R rfl (by omega) 0)
theorem mX7_leader_ok (R : RZ B (μ 1 0) S) : gOk (mX7_leader μ) (rPost μ B (zaLeader S)) := by
  unfold mX7_leader zaLeader
  refine gOk_jq (γ := Int32) (fun x => x.toInt = zLead5 S 5) (fun x1 hx => ?_) (fun j2 hj2 => ?_)
  · have e0 : (0 : Int32).toInt = 0 := rfl
    refine gOk_lee (fun x3 h3 => ?_)
    by_cases w : 0 ≤ x1
    · have := Int32.le_iff_toInt_le.mp w
      rw [hx, e0] at this
      rw [if_pos w] at h3
      rw [if_neg (by omega)]
      refine gOk_fails (Or.inl h3) (fun _ => gOk_let (gOk_some ?_)) (fun z => absurd (h3.symm.trans z) (by decide))
      rw [if_pos rfl]
      exact rPost_yes gF2.rf hx (R.th (k := 0))
    · have := Int.not_le.mp (fun y => w (Int32.le_iff_toInt_le.mpr y))
      rw [hx, e0] at this
      rw [if_neg w] at h3
      rw [if_pos this]
      refine gOk_fails (Or.inr h3) (fun z => absurd (h3.symm.trans z) (by decide)) (fun _ => gOk_let (gOk_some ?_))
      exact rPost_no R rfl (by omega) _
  · have hz : ∀ j, j ≤ 5 → (zLead5 S j = -1 ∨ (0 ≤ zLead5 S j ∧ zLead5 S j < j)) := by
      intro j
      induction j with
      | zero => intro _; exact Or.inl rfl
      | succ j ih =>
        intro hj
        unfold zLead5
        by_cases c : (nup (zno S j) = true ∧ nro (zno S j) = 2) ∧ (zLead5 S j < 0 ∨ ntm (zno S (zLead5 S j).toNat) < ntm (zno S j))
        · rw [if_pos c]; exact Or.inr ⟨by omega, by omega⟩
        · rw [if_neg c]
          rcases ih (by omega) with z | z
          · exact Or.inl z
          · exact Or.inr ⟨z.1, by omega⟩
    refine gOk_fx2 (fun v (x14 : Int32) (x15 : Int32) => ∃ j, v = 5 - j ∧ j ≤ 5 ∧ x15.toInt = (j : Int) ∧ x14.toInt = zLead5 S j) ?_ 1000000 5 _ _ (by omega) ⟨0, rfl, by omega, rfl, ti_m1⟩
    intro rec v x14 x15 hI ih
    obtain ⟨j, hv, j1, j2, j3⟩ := hI
    subst hv
    refine gOk_le (x := 5) (a := 5) rfl j2 (fun q => hj2 _ (by rw [j3, show j = 5 by omega])) (fun q => ?_)
    have hj : j < 5 := by omega
    have hR := R.1.2.1 j hj
    have r0 := hR.1.1
    have r1 := hR.2.1
    have r2 := hR.1.2.1
    have e1 : (x15 + 1).toInt = ((j + 1 : Nat) : Int) := by rw [ti_add j2 (y := 1) (b := 1) rfl (by omega) (by omega)]; omega
    have next : ∀ x : Int32, x.toInt = zLead5 S (j + 1) → gOk (rec x (x15 + 1)) (rPost μ B (if zLead5 S 5 < 0 then (1, 0, S) else (0, zLead5 S 5, S))) := fun x hx => ih _ _ (5 - (j + 1)) (by omega) ⟨j + 1, rfl, by omega, e1, hx⟩
    have stay : ¬ (nup (zno S j) = true ∧ nro (zno S j) = 2) → x14.toInt = zLead5 S (j + 1) := fun c => by
      rw [zLead5, if_neg (fun z => c z.1)]; exact j3
    refine gOk_be (mX7_of_ok μ j2 (k := 0) rfl hj (by omega)) (gOk_jon (gOk_jon ?_))
    by_cases hu : nup (zno S j) = true
    · rw [hu, if_pos rfl] at r0
      refine gOk_eq r0 (y := 1) (b := 1) rfl (fun _ => ?_) (fun z => absurd rfl z)
      refine gOk_be (mX7_of_ok μ j2 (k := 1) rfl hj (by omega)) (gOk_lee (fun x37 h37 => ?_))
      by_cases hr : rN (μ 1 0) j 1 = 2
      · rw [if_pos hr] at h37
        have hro : nro (zno S j) = 2 := by
          rw [hr] at r1
          have e : (2 : Int32).toInt = 2 := rfl
          omega
        refine gOk_if (fun z => absurd (h37.symm.trans z) (by decide)) (fun _ => ?_)
        rcases hz j (by omega) with c | ⟨c, c'⟩
        · refine gOk_lt (j3.trans c) (y := 0) (b := 0) rfl (fun _ => next _ ?_) (fun z => absurd z (by decide))
          rw [zLead5, if_pos ⟨⟨hu, hro⟩, Or.inl (by omega)⟩]; exact j2
        · refine gOk_lt j3 (y := 0) (b := 0) rfl (fun z => absurd z (by omega)) (fun _ => ?_)
          obtain ⟨f, hf⟩ : ∃ f : Nat, zLead5 S j = (f : Int) := ⟨(zLead5 S j).toNat, by omega⟩
          have hf5 : f < 5 := by omega
          have r2f := (R.1.2.1 f hf5).1.2.1
          refine gOk_be (mX7_of_ok μ j2 (k := 2) rfl hj (by omega)) (gOk_be (mX7_of_ok μ (j3.trans hf) (k := 2) rfl hf5 (by omega)) (gOk_let (next _ ?_)))
          have hft : (zLead5 S j).toNat = f := by omega
          by_cases w : rN (μ 1 0) j 2 ≤ rN (μ 1 0) f 2
          · have := Int32.le_iff_toInt_le.mp w
            rw [r2, r2f] at this
            rw [if_pos w, zLead5, hft, if_neg (fun z => z.2.elim (fun y => by omega) (fun y => by omega))]
            exact j3
          · have := Int.not_le.mp (fun y => w (Int32.le_iff_toInt_le.mpr y))
            rw [r2, r2f] at this
            rw [if_neg w, zLead5, hft, if_pos ⟨⟨hu, hro⟩, Or.inr (by omega)⟩]
            exact j2
      · rw [if_neg hr] at h37
        refine gOk_if (fun _ => next _ (stay (fun c => hr (ti_eq r1 (by rw [c.2]; rfl))))) (fun z => absurd h37 z)
    · have hu' := hu
      rw [Bool.not_eq_true] at hu'
      rw [hu', if_neg (by decide)] at r0
      refine gOk_eq r0 (y := 1) (b := 1) rfl (fun z => absurd z (by decide)) (fun _ => gOk_if (fun _ => next _ (stay (fun c => hu c.1))) (fun z => absurd rfl z))
end SqApi5
