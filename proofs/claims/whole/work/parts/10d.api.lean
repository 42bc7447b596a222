/-! The reference's calls: read, node, entry, noted, setLink, reconfigure. -/
def zaRead (S : sqSt) (a : Int) : sqRs := if ¬ (0 ≤ a ∧ a < 5) then (1, 0, S) else if nro (zno S a.toNat) ≠ 2 then (2, 0, S) else if (zti S : Int) < zLease S a.toNat ∧ sqTT (nlg (zno S a.toNat)) (ncm (zno S a.toNat)) = ntm (zno S a.toNat) then (0, (sqR ((nlg (zno S a.toNat)).take (ncm (zno S a.toNat)))).toInt, S) else (3, 0, S)
def zNode (S : sqSt) (n w : Nat) : Int :=
  if w = 0 then (if nup (zno S n) then 1 else 0)
  else if w = 1 then nro (zno S n)
  else if w = 2 then ntm (zno S n)
  else if w = 3 then zVo (nvo (zno S n))
  else if w = 4 then ncm (zno S n)
  else if w = 5 then (nlg (zno S n)).length
  else if w = 6 then sqTT (nlg (zno S n)) (nlg (zno S n)).length
  else if w = 7 then nbs (zno S n)
  else if w = 8 then (sqR ((nlg (zno S n)).take (ncm (zno S n)))).toInt
  else if w = 9 then (nti (zno S n)).toInt
  else if w = 10 then (zc S (zno S n)).1
  else if w = 11 then (zc S (zno S n)).2
  else if w = 12 then (if nro (zno S n) = 2 then zLease S n else -1)
  else (if nro (zno S n) = 1 then (sqMk (nvs (zno S n)) : Int) else 0)
def zaNode (S : sqSt) (a w : Int) : sqRs := if ¬ (0 ≤ a ∧ a < 5) then (1, 0, S) else if ¬ (0 ≤ w ∧ w ≤ 13) then (2, 0, S) else (0, zNode S a.toNat w.toNat, S)
def zaNoted (S : sqSt) (a b w : Int) : sqRs := if ¬ ((0 ≤ a ∧ a < 5) ∧ (0 ≤ b ∧ b < 5)) then (1, 0, S) else if a = b ∨ ¬ (0 ≤ w ∧ w ≤ 2) then (2, 0, S) else if nro (zno S a.toNat) ≠ 2 then (3, 0, S) else (0, if w = 0 then (nnx (zno S a.toNat) b.toNat : Int) else if w = 1 then (nmt (zno S a.toNat) b.toNat : Int) else nec (zno S a.toNat) b.toNat, S)
def zaLink (S : sqSt) (a b : Int) (x : Bool) : sqRs := if ¬ ((0 ≤ a ∧ a < 5) ∧ (0 ≤ b ∧ b < 5)) then (1, 0, S) else if a = b then (2, 0, S) else (0, if zcu S a.toNat b.toNat then 1 else 0, zCu S a.toNat b.toNat x)
def zaConf (S : sqSt) (a g : Int) : sqRs := if ¬ (0 ≤ a ∧ a < 5) then (1, 0, S) else if ¬ (1 ≤ g ∧ g ≤ 31) then (2, 0, S) else if ¬ (nro (zno S a.toNat) = 2 ∧ (zc S (zno S a.toNat)).1 = 0 ∧ sqCI (nlg (zno S a.toNat)) ≤ ncm (zno S a.toNat)) then (3, 0, S) else if nbs (zno S a.toNat) + 24 ≤ (nlg (zno S a.toNat)).length then (4, 0, S) else (0, (nlg (zno S a.toNat)).length + 1, zSub S a.toNat 1 (Int32.ofNat (32 * (zc S (zno S a.toNat)).2 + g.toNat)))
section SqApi4
variable {μ : gM} {S : sqSt} {B n k i : Nat} {a1 a2 a3 a4 a5 : Int32} {N : sqN} {A A' : Nat → Int32} {m : sqMs} {h : sqH}
theorem mX7_canAnswer_ok (R : RZ B (μ 1 0) S) (hT : zti S < 900000) (hn : n < 5) (h1 : a1.toInt = (n : Int)) (hr : nro (zno S n) = 2) : gOk (mX7_canAnswer a1 μ) (fun r => (r = 0 ∨ r = 1) ∧ (r = 0 ↔ ¬ ((zti S : Int) < zLease S n ∧ sqTT (nlg (zno S n)) (ncm (zno S n)) = ntm (zno S n)))) := by
  have hb := R.bd hn
  have hR := R.1.2.1 n hn
  unfold mX7_canAnswer
  refine gOk_bp (mX7_lease_ok R hT hn h1 hr) (fun r2 h2 => gOk_le h2 R.1.1.1 (fun q => gOk_some ⟨Or.inl rfl, fun _ z => by omega, fun _ => rfl⟩) (fun q => ?_))
  refine gOk_be (mX7_of_ok μ h1 (k := 4) rfl hn (by omega)) (gOk_bp (mX7_termAt_ok R.1 R.2.1.2 R.2.2 hn h1 hR.1.2.2.2.1 (by omega) hb.1) (fun r7 h7 => gOk_be (mX7_of_ok μ h1 (k := 2) rfl hn (by omega)) (gOk_eq h7 hR.1.2.1 (fun w => gOk_some ⟨Or.inr rfl, fun z => absurd z (by decide), fun z => absurd ⟨q, by omega⟩ z⟩) (fun w => gOk_some ⟨Or.inl rfl, fun _ z => w (by omega), fun _ => rfl⟩))))
theorem mX7_read_ok (R : RZ B (μ 1 0) S) (hT : zti S < 900000) : gOk (mX7_read a1 μ) (rPost μ B (zaRead S a1.toInt)) := by
  unfold mX7_read zaRead
  refine gOk_bp (mX7_isNode_ok μ a1) (fun r2 h2 => gOk_guard (fun q => ?_) (fun q => ?_))
  · have hc : 0 ≤ a1.toInt ∧ a1.toInt < 5 := Classical.byContradiction fun z => q (h2.2.mpr z)
    rw [if_neg (show ¬ ¬ (0 ≤ a1.toInt ∧ a1.toInt < 5) from fun z => z hc)]
    obtain ⟨n, hn, h1, he⟩ := nd_of hc
    rw [he]
    have R1 := R.th (k := 0)
    have r1 := (R1.1.2.1 n hn).2.1
    refine gOk_be (mX7_of_ok _ h1 (k := 1) rfl hn (by omega)) (gOk_guarn (fun q2 => ?_) (fun q2 => ?_))
    · have hr : nro (zno S n) = 2 := by
        rw [q2] at r1
        have e : (2 : Int32).toInt = 2 := rfl
        omega
      rw [if_neg (fun z => z hr)]
      have R2 := R1.th (k := 0)
      refine gOk_bp (mX7_canAnswer_ok R2 hT hn h1 hr) (fun r22 h22 => gOk_guard (fun q3 => ?_) (fun q3 => ?_))
      · have hca := Classical.byContradiction fun z => q3 (h22.2.mpr z)
        rw [if_pos hca]
        have R3 := R2.th (k := 0)
        exact gOk_bp (mX7_resultOf_ok R3 hn h1) (fun r32 h32 => gOk_some (rPost.th (rPost.th (rPost_yes gF2.rf (by rw [h32]) R3))))
      · rw [if_neg (h22.2.mp q3)]
        exact gOk_some (rPost.th (rPost.th (rPost_no R2 rfl (by omega) 0)))
    · rw [if_pos (fun z => q2 (ti_eq r1 (by rw [z]; rfl)))]
      exact gOk_some (rPost.th (rPost_no R1 rfl (by omega) 0))
  · rw [if_pos (h2.2.mp q)]
    exact gOk_some (rPost_no R rfl (by omega) 0)
theorem mX7_node_ok (R : RZ B (μ 1 0) S) (hT : zti S < 900000) : gOk (mX7_node a1 a2 μ) (rPost μ B (zaNode S a1.toInt a2.toInt)) := by
  unfold mX7_node zaNode
  refine gOk_bp (mX7_isNode_ok μ a1) (fun r2 h2 => gOk_guard (fun q => ?_) (fun q => ?_))
  · have hc : 0 ≤ a1.toInt ∧ a1.toInt < 5 := Classical.byContradiction fun z => q (h2.2.mpr z)
    rw [if_neg (show ¬ ¬ (0 ≤ a1.toInt ∧ a1.toInt < 5) from fun z => z hc)]
    obtain ⟨n, hn, h1, he⟩ := nd_of hc
    rw [he]
    have R1 := R.th (k := 0)
    refine gOk_bp (mX7_isBetween_ok _ (a := a2.toInt) rfl (b := 0) rfl (c := 13) rfl) (fun r12 h12 => gOk_guard (fun q2 => ?_) (fun q2 => ?_))
    · have hc2 : 0 ≤ a2.toInt ∧ a2.toInt ≤ 13 := Classical.byContradiction fun z => q2 (h12.2.mpr z)
      rw [if_neg (show ¬ ¬ (0 ≤ a2.toInt ∧ a2.toInt ≤ 13) from fun z => z hc2)]
      have R2 := R1.th (k := 0)
      generalize hμ : w3 (w3 μ 0 0 0 0) 0 0 0 0 = μ2 at *
      have hR := R2.1.2.1 n hn
      have hb := R2.bd hn
      have hB := R.2.2
      obtain ⟨⟨s1, s2, s3, s4, s5, s6, s7, s8, s9, s10, s11, s12⟩, t1, t2, t3, t4⟩ := hR
      have fin : ∀ (x : Int32) (v : Int), x.toInt = v → v = zNode S n a2.toInt.toNat → gOk (some (x, μ2)) (rPost μ B (0, zNode S n a2.toInt.toNat, S)) := fun x v hx hv => by
        subst hμ
        rw [← hv]
        exact gOk_some (rPost.th (rPost_yes gF2.rf hx R2))
      obtain ⟨w, hw, hww⟩ : ∃ w : Nat, a2.toInt = (w : Int) ∧ a2.toInt.toNat = w := ⟨a2.toInt.toNat, by omega, rfl⟩
      rw [hww] at fin ⊢
      refine gOk_eq hw (y := 5) (b := 5) rfl (fun c5 => ?_) (fun c5 => ?_)
      · exact gOk_bp (mX7_last_ok R2.1 R2.2.1.2 hB hn h1) (fun r h => fin _ _ h (by rw [show w = 5 by omega]; rfl))
      refine gOk_eq hw (y := 6) (b := 6) rfl (fun c6 => ?_) (fun c6 => ?_)
      · exact gOk_bp (mX7_last_ok R2.1 R2.2.1.2 hB hn h1) (fun r h => gOk_bp (mX7_termAt_ok R2.1 R2.2.1.2 hB hn h1 h hb.2.1 (Nat.le_refl _)) (fun r h => fin _ _ h (by rw [show w = 6 by omega]; rfl)))
      refine gOk_eq hw (y := 7) (b := 7) rfl (fun c7 => ?_) (fun c7 => ?_)
      · exact gOk_be (mX7_of_ok _ h1 (k := 7) rfl hn (by omega)) (fin _ _ s5 (by rw [show w = 7 by omega]; rfl))
      refine gOk_eq hw (y := 8) (b := 8) rfl (fun c8 => ?_) (fun c8 => ?_)
      · exact gOk_bp (mX7_resultOf_ok R2 hn h1) (fun r h => fin _ _ rfl (by rw [show w = 8 by omega, h]; rfl))
      refine gOk_eq hw (y := 9) (b := 9) rfl (fun c9 => ?_) (fun c9 => ?_)
      · exact gOk_be (mX7_of_ok _ h1 (k := 5) rfl hn (by omega)) (fin _ _ rfl (by rw [show w = 9 by omega, t2]; rfl))
      refine gOk_eq hw (y := 10) (b := 10) rfl (fun c10 => ?_) (fun c10 => ?_)
      · exact gOk_bp (mX7_configuration_ok R2 hn h1) (fun r h => gOk_bp (mX7_cfg_ok R2 hn h1 h).1 (fun r h => fin _ _ h (by rw [show w = 10 by omega]; rfl)))
      refine gOk_eq hw (y := 11) (b := 11) rfl (fun c11 => ?_) (fun c11 => ?_)
      · exact gOk_bp (mX7_configuration_ok R2 hn h1) (fun r h => gOk_bp (mX7_cfg_ok R2 hn h1 h).2 (fun r h => fin _ _ h (by rw [show w = 11 by omega]; rfl)))
      refine gOk_eq hw (y := 12) (b := 12) rfl (fun c12 => ?_) (fun c12 => ?_)
      · refine gOk_be (mX7_of_ok _ h1 (k := 1) rfl hn (by omega)) (gOk_eq t1 (y := 2) (b := 2) rfl (fun z => ?_) (fun z => ?_))
        · have hr : nro (zno S n) = 2 := by omega
          exact gOk_bp (mX7_lease_ok R2 hT hn h1 hr) (fun r h => fin _ _ h (by
            rw [show w = 12 by omega]
            show zLease S n = if nro (zno S n) = 2 then zLease S n else -1
            rw [if_pos hr]))
        · exact fin _ _ ti_m1 (by
            rw [show w = 12 by omega]
            show (-1 : Int) = if nro (zno S n) = 2 then zLease S n else -1
            rw [if_neg (by omega)])
      refine gOk_eq hw (y := 13) (b := 13) rfl (fun c13 => ?_) (fun c13 => ?_)
      · refine gOk_be (mX7_of_ok _ h1 (k := 1) rfl hn (by omega)) (gOk_eq t1 (y := 1) (b := 1) rfl (fun z => ?_) (fun z => ?_))
        · have hr : nro (zno S n) = 1 := by omega
          exact gOk_be (mX7_of_ok _ h1 (k := 6) rfl hn (by omega)) (fin _ _ (t3 hr) (by
            rw [show w = 13 by omega]
            show (sqMk (nvs (zno S n)) : Int) = if nro (zno S n) = 1 then (sqMk (nvs (zno S n)) : Int) else 0
            rw [if_pos hr]))
        · exact fin _ _ rfl (by
            rw [show w = 13 by omega]
            show (0 : Int) = if nro (zno S n) = 1 then (sqMk (nvs (zno S n)) : Int) else 0
            rw [if_neg (by omega)])
      have hw4 : w = 0 ∨ w = 1 ∨ w = 2 ∨ w = 3 ∨ w = 4 := by omega
      refine gOk_be (mX7_of_ok _ h1 hw hn (by omega)) ?_
      rcases hw4 with rfl | rfl | rfl | rfl | rfl
      · exact fin _ _ s1 rfl
      · exact fin _ _ t1 rfl
      · exact fin _ _ s2 rfl
      · exact fin _ _ s3 rfl
      · exact fin _ _ s4 rfl
    · rw [if_pos (h12.2.mp q2)]
      exact gOk_some (rPost.th (rPost_no R1 rfl (by omega) 0))
  · rw [if_pos (h2.2.mp q)]
    exact gOk_some (rPost_no R rfl (by omega) 0)
theorem mX7_entry_ok (R : RZ B (μ 1 0) S) : gOk (mX7_entry a1 a2 a3 μ) (rPost μ B (zaEnt S a1.toInt a2.toInt a3.toInt)) := by
  unfold mX7_entry zaEnt
  refine gOk_bp (mX7_isNode_ok μ a1) (fun r2 h2 => gOk_jon (gOk_jon (gOk_if (fun q => ?_) (fun q => ?_))))
  · rw [if_neg (fun z => (h2.2.mp q) z.1)]
    exact gOk_guard (c := (0 : Int32) = 0) (fun z => absurd rfl z) (fun _ => gOk_some (rPost_no R rfl (by omega) 0))
  · have hc : 0 ≤ a1.toInt ∧ a1.toInt < 5 := Classical.byContradiction fun z => q (h2.2.mpr z)
    obtain ⟨n, hn, h1, he⟩ := nd_of hc
    rw [he]
    have r7 := (R.1.2.1 n hn).1.2.2.2.2.1
    have hb := R.bd hn
    have hB := R.2.2
    have hll := (R.2.1.2.2.2.2.1 n hn).2.1
    refine gOk_be (mX7_of_ok μ h1 (k := 7) rfl hn (by omega)) (gOk_bp (mX7_last_ok R.1 R.2.1.2 hB hn h1) (fun r31 h31 => gOk_bp (mX7_isBetween_ok μ (a := a2.toInt) rfl (ti_add r7 (y := 1) (b := 1) rfl (by omega) (by omega)) h31) (fun r33 h33 => gOk_lee (fun x34 h34 => ?_))))
    have hx : x34 = 0 ↔ ¬ ((nbs (zno S n) : Int) + 1 ≤ a2.toInt ∧ a2.toInt ≤ ((nlg (zno S n)).length : Int)) := by
      rw [h34]
      by_cases z : r33 = 0
      · rw [if_pos z]; exact ⟨fun _ => h33.2.mp z, fun _ => rfl⟩
      · rw [if_neg z]; exact ⟨fun y => absurd y (by decide), fun y => absurd (h33.2.mpr y) z⟩
    refine gOk_guard (fun q2 => ?_) (fun q2 => ?_)
    · have hin := Classical.byContradiction fun z => q2 (hx.mpr z)
      rw [if_pos ⟨hc, hin.1, hin.2⟩]
      have R1 := R.th (k := 0)
      refine gOk_bp (mX7_isBetween_ok _ (a := a3.toInt) rfl (b := 0) rfl (c := 2) rfl) (fun r47 h47 => gOk_guard (fun q3 => ?_) (fun q3 => ?_))
      · have hc2 : 0 ≤ a3.toInt ∧ a3.toInt ≤ 2 := Classical.byContradiction fun z => q3 (h47.2.mpr z)
        rw [if_pos hc2]
        have R2 := R1.th (k := 0)
        obtain ⟨j, hj⟩ : ∃ j : Nat, a2.toInt = ((j + 1 : Nat) : Int) := ⟨(a2.toInt - 1).toNat, by omega⟩
        have hjl : j < (nlg (zno S n)).length := by omega
        have hg := List.getElem?_eq_getElem hjl
        rw [show (a2.toInt - 1).toNat = j by omega, hg]
        obtain ⟨w, hw, hww⟩ : ∃ w : Nat, a3.toInt = (w : Int) ∧ a3.toInt.toNat = w := ⟨a3.toInt.toNat, by omega, rfl⟩
        rw [hww]
        refine gOk_bp (mX7_entryOf_ok R2.1 R2.2.1.2 hB hn h1 hg (by omega) hj hw (by omega)) (fun r57 h57 => gOk_some (rPost.th (rPost_yes gF2.rf ?_ R2)))
        have hw3 : w = 0 ∨ w = 1 ∨ w = 2 := by omega
        rcases hw3 with rfl | rfl | rfl
        · exact h57.1 rfl
        · exact h57.2.1 rfl
        · rw [h57.2.2 rfl]; rfl
      · rw [if_neg (h47.2.mp q3)]
        exact gOk_some (rPost.th (rPost_no R1 rfl (by omega) 0))
    · rw [if_neg (fun z => (hx.mp q2) ⟨z.2.1, z.2.2⟩)]
      exact gOk_some (rPost_no R rfl (by omega) 0)
theorem mX7_noted_in (R : RZ B (μ 1 0) S) (hn : n < 5) (hi : i < 5) (h1 : a1.toInt = (n : Int)) (h2 : a2.toInt = (i : Int)) : gOk (
        gJon (fun (x9 : Int32) =>
            gBd (mX7_fails 2 x9 μ) fun r12 μ13 =>
            if r12 = 0 then
              gBp (mX7_of a1 1 μ13) fun r16 =>
              gLet (α := Int32) (if r16 = 2 then 0 else 1) fun x17 =>
              gBd (mX7_fails 3 x17 μ13) fun r22 μ23 =>
              if r22 = 0 then
                gJon (fun (x25 : Int32) =>
                    gBp (mX7_of a1 (x25 + a2) μ23) fun r28 =>
                    some (r28, μ23)) fun j26 =>
                if a3 = 0 then
                  j26 13
                else
                  if a3 = 1 then
                    j26 18
                  else
                    j26 23
              else
                some (0, μ23)
            else
              some (0, μ13)) fun j10 =>
        gJon (fun (u32 : Unit) =>
            j10 1) fun j31 =>
        if a1 = a2 then
          j31 () 
        else
          gBp (mX7_isBetween a3 0 2 μ) fun r35 =>
          gLet (α := Int32) (if r35 = 0 then 1 else 0) fun x36 =>
          gBd (mX7_fails 2 x36 μ) fun r41 μ42 =>
          if r41 = 0 then
            gBp (mX7_of a1 1 μ42) fun r45 =>
            gLet (α := Int32) (if r45 = 2 then 0 else 1) fun x46 =>
            gBd (mX7_fails 3 x46 μ42) fun r51 μ52 =>
            if r51 = 0 then
              gJon (fun (x54 : Int32) =>
                  gBp (mX7_of a1 (x54 + a2) μ52) fun r57 =>
                  some (r57, μ52)) fun j55 =>
              if a3 = 0 then
                j55 13
              else
                if a3 = 1 then
                  j55 18
                else
                  j55 23
            else
              some (0, μ52)
          else
            some (0, μ42)) (rPost μ B (if a1.toInt = a2.toInt ∨ ¬ (0 ≤ a3.toInt ∧ a3.toInt ≤ 2) then (2, 0, S) else if nro (zno S n) ≠ 2 then (3, 0, S) else (0, if a3.toInt = 0 then (nnx (zno S n) i : Int) else if a3.toInt = 1 then (nmt (zno S n) i : Int) else nec (zno S n) i, S))) := by
  refine gOk_jon (gOk_jon (gOk_if (fun q => ?_) (fun q => ?_)))
  · rw [if_pos (Or.inl (by rw [q]))]
    exact gOk_fails (Or.inr rfl) (fun z => absurd z (by decide)) (fun _ => gOk_if (fun z => absurd z (by decide)) (fun _ => gOk_some (rPost_no R rfl (by omega) 0)))
  · refine gOk_bp (mX7_isBetween_ok μ (a := a3.toInt) rfl (b := 0) rfl (c := 2) rfl) (fun r35 h35 => gOk_guard (fun q2 => ?_) (fun q2 => ?_))
    · have hc := Classical.byContradiction fun z => q2 (h35.2.mpr z)
      rw [if_neg (fun z => z.elim (fun y => q (Int32.toInt_inj.mp y)) (fun y => y hc))]
      have R1 := R.th (k := 0)
      have hR := R1.1.2.1 n hn
      refine gOk_be (mX7_of_ok _ h1 (k := 1) rfl hn (by omega)) (gOk_guarn (fun q3 => ?_) (fun q3 => ?_))
      · have r1 := hR.2.1
        have hr : nro (zno S n) = 2 := by
          rw [q3] at r1
          have e : (2 : Int32).toInt = 2 := rfl
          omega
        rw [if_neg (fun z => z hr)]
        have R2 := R1.th (k := 0)
        obtain ⟨u1, u2, u3⟩ := (R2.1.2.1 n hn).2.2.2.2 hr i hi
        have e13 : ((13 : Int32) + a2).toInt = ((13 + i : Nat) : Int) := by rw [ti_add (x := 13) (a := 13) rfl h2 (by omega) (by omega)]; omega
        have e18 : ((18 : Int32) + a2).toInt = ((18 + i : Nat) : Int) := by rw [ti_add (x := 18) (a := 18) rfl h2 (by omega) (by omega)]; omega
        have e23 : ((23 : Int32) + a2).toInt = ((23 + i : Nat) : Int) := by rw [ti_add (x := 23) (a := 23) rfl h2 (by omega) (by omega)]; omega
        refine gOk_jon (gOk_eq (x := a3) rfl (y := 0) (b := 0) rfl (fun z => ?_) (fun z => gOk_eq (x := a3) rfl (y := 1) (b := 1) rfl (fun z1 => ?_) (fun z1 => ?_)))
        · rw [if_pos z]
          exact gOk_be (mX7_of_ok _ h1 e13 hn (by omega)) (gOk_some (rPost.th (rPost_yes gF2.rf u1 R2)))
        · rw [if_neg z, if_pos z1]
          exact gOk_be (mX7_of_ok _ h1 e18 hn (by omega)) (gOk_some (rPost.th (rPost_yes gF2.rf u2 R2)))
        · rw [if_neg z, if_neg z1]
          exact gOk_be (mX7_of_ok _ h1 e23 hn (by omega)) (gOk_some (rPost.th (rPost_yes gF2.rf u3 R2)))
      · rw [if_pos (fun z => q3 (ti_eq hR.2.1 (by rw [z]; rfl)))]
        exact gOk_some (rPost.th (rPost_no R1 rfl (by omega) 0))
    · rw [if_pos (Or.inr (h35.2.mp q2))]
      exact gOk_some (rPost_no R rfl (by omega) 0)
theorem mX7_noted_ok (R : RZ B (μ 1 0) S) : gOk (mX7_noted a1 a2 a3 μ) (rPost μ B (zaNoted S a1.toInt a2.toInt a3.toInt)) := by
  unfold mX7_noted zaNoted
  refine gOk_bp (mX7_isNode_ok μ a1) (fun r2 h2 => gOk_jon (gOk_jon (gOk_if (fun q => ?_) (fun q => ?_))))
  · rw [if_pos (fun z => (h2.2.mp q) z.1)]
    exact gOk_fails (Or.inr rfl) (fun z => absurd z (by decide)) (fun _ => gOk_if (fun z => absurd z (by decide)) (fun _ => gOk_some (rPost_no R rfl (by omega) 0)))
  · have hc : 0 ≤ a1.toInt ∧ a1.toInt < 5 := Classical.byContradiction fun z => q (h2.2.mpr z)
    refine gOk_bp (mX7_isNode_ok μ a2) (fun r41 h41 => gOk_guard (fun q2 => ?_) (fun q2 => ?_))
    · have hc2 : 0 ≤ a2.toInt ∧ a2.toInt < 5 := Classical.byContradiction fun z => q2 (h41.2.mpr z)
      rw [if_neg (show ¬ ¬ ((0 ≤ a1.toInt ∧ a1.toInt < 5) ∧ (0 ≤ a2.toInt ∧ a2.toInt < 5)) from fun z => z ⟨hc, hc2⟩)]
      obtain ⟨n, hn, h1, he⟩ := nd_of hc
      obtain ⟨i, hi, h1', he'⟩ := nd_of hc2
      have R1 := R.th (k := 0)
      have key := mX7_noted_in (a3 := a3) R1 hn hi h1 h1'
      rw [he, he']
      exact gOk_imp key (fun q h => rPost.th h)
    · rw [if_pos (fun z => (h41.2.mp q2) z.2)]
      exact gOk_some (rPost_no R rfl (by omega) 0)
end SqApi4
