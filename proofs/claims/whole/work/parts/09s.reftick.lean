/-! The reference: messages removed, the first that is due; what is sent meanwhile isn't due. -/
/-- only new messages, due after the delay, come behind the old ones -/
def zNew (S S' : sqSt) : Prop := zti S' = zti S ∧ zde S' = zde S ∧ ∃ l, zms S' = zms S ++ l ∧ ∀ x, x ∈ l → mdu x = zti S + zde S
section SqNew
variable {S S1 S2 : sqSt} {n i : Nat} {m : sqMs}
theorem zNew.rf : zNew S S := ⟨rfl, rfl, [], by rw [List.append_nil], fun x hx => by cases hx⟩
theorem zNew.eq (h1 : zti S1 = zti S) (h2 : zde S1 = zde S) (h3 : zms S1 = zms S) : zNew S S1 := ⟨h1, h2, [], by rw [h3, List.append_nil], fun x hx => by cases hx⟩
theorem zNew.tr (a : zNew S S1) (b : zNew S1 S2) : zNew S S2 := by
  obtain ⟨a1, a2, l, a3, a4⟩ := a
  obtain ⟨b1, b2, k, b3, b4⟩ := b
  refine ⟨b1.trans a1, b2.trans a2, l ++ k, by rw [b3, a3, List.append_assoc], fun x hx => ?_⟩
  rcases List.mem_append.mp hx with q | q
  · exact a4 x q
  · rw [b4 x q, a1, a2]
theorem zNew.post (h : mdu m = zti S + zde S) : zNew S (zPost S m) := by
  unfold zPost
  split
  · exact zNew.eq rfl rfl rfl
  · exact ⟨rfl, rfl, [m], rfl, fun x hx => by rw [List.mem_singleton.mp hx]; exact h⟩
theorem zNew.snd : zNew S (zSnd S n i) := by
  unfold zSnd
  split
  · exact zNew.post rfl
  · exact zNew.post rfl
theorem zNew.fold {f : sqSt → Nat → sqSt} (hf : ∀ S i, zNew S (f S i)) : ∀ (l : List Nat) (S : sqSt), zNew S (l.foldl f S) := by
  intro l
  induction l with
  | nil => intro S; exact zNew.rf
  | cons a l ih => intro S; rw [List.foldl_cons]; exact (hf S a).tr (ih _)
theorem zNew.all : zNew S (zAll S n) := by
  unfold zAll
  refine zNew.fold (fun S i => ?_) _ _
  split
  · exact zNew.snd
  · exact zNew.rf
theorem zNew.ask : zNew S (zAsk S n) := by
  unfold zAsk
  refine zNew.fold (fun S i => ?_) _ _
  split
  · exact zNew.post rfl
  · exact zNew.rf
theorem zNew.nd {N : sqN} : zNew S (zN S n N) := zNew.eq rfl rfl rfl
theorem zNew.com : zNew S (zCom S n) := by
  unfold zCom
  split
  · split
    · split
      · exact zNew.nd
      · exact zNew.nd
    · split
      · exact zNew.nd
      · exact zNew.nd
  · exact zNew.nd
theorem zNew.lead : zNew S (zLead S n) := by
  unfold zLead
  exact zNew.eq rfl rfl rfl
theorem zNew.win : zNew S (zWin S n) := by
  unfold zWin
  refine zNew.tr ?_ zNew.all
  split
  · have h1 : zNew S (zLead S n) := zNew.lead
    have h2 : zNew (zLead S n) (zAdd (zLead S n) n 3 0) := by unfold zAdd; exact zNew.nd
    exact (h1.tr h2).tr zNew.com
  · exact zNew.lead
theorem zNew.req : zNew S (zReq S n m) := by
  unfold zReq
  split
  · exact zNew.nd.tr (zNew.post rfl)
  · exact zNew.post rfl
theorem zNew.rep : zNew S (zRep S n m) := by
  have hv : zNew S (zVs S n m) := by unfold zVs; exact zNew.nd
  unfold zRep
  split
  · split
    · exact hv.tr zNew.win
    · exact hv
  · exact zNew.rf
theorem zNew.ans : zNew S (zAns S n m) := by
  unfold zAns
  split
  · split
    · exact zNew.nd.tr zNew.com
    · exact zNew.nd.tr zNew.snd
  · exact zNew.rf
theorem zNew.ok {fl ix : Nat} : zNew S (zOk S n m fl ix) := by
  unfold zOk
  exact zNew.post rfl
theorem zNew.ndst {N : sqN} {k : Nat} {x : Int32} : zNew S (zS (zN S n N) k x) := zNew.eq rfl rfl rfl
theorem zNew.app : zNew S (zApp S n m) := by
  unfold zApp
  split
  · exact zNew.ok
  · exact zNew.ndst.tr zNew.ok
theorem zNew.ins : zNew S (zIns S n m) := by
  unfold zIns
  split
  · exact zNew.ndst.tr zNew.ok
  · exact zNew.ok
theorem zNew.ldr : zNew S (zLdr S n m) := by
  unfold zLdr
  split
  · exact zNew.ok
  · split
    · exact zNew.nd.tr zNew.app
    · exact zNew.nd.tr zNew.ins
theorem zNew.rcv : zNew S (zRcv S m) := by
  have hb : zNew S (zBmp S (mre m) (mtm m)) := by
    unfold zBmp
    split
    · exact zNew.nd
    · exact zNew.rf
  unfold zRcv
  split
  · exact zNew.eq rfl rfl rfl
  · split
    · exact hb.tr zNew.req
    · split
      · exact hb.tr zNew.rep
      · split
        · exact hb.tr zNew.ans
        · exact hb.tr zNew.ldr
end SqNew
section SqRef19
variable {μ : gM} {S : sqSt} {B n k i : Nat} {a1 a2 a3 a4 a5 : Int32} {N : sqN} {A A' : Nat → Int32} {m : sqMs} {h : sqH}
theorem mX7_remove_ok (R : RZ B (μ 1 0) S) {w : Nat} (hw : w < (zms S).length) (h1 : a1.toInt = (w : Int)) : gOk (mX7_remove a1 μ) (fun μ' => gF1 μ μ' ∧ RA (μ' 1 0) (zDel S w)) := by
  have hc := R.cnt
  obtain ⟨g1, g2, g3, g4, g5, g6, g7⟩ := R.1.1
  generalize hL : (zms S).length = c at *
  have e4 := ti_sub g4 (y := 1) (b := 1) rfl (by omega) (by omega)
  have x3 : (616 + (a1 * 25)).toInt = ((616 + 25 * w : Nat) : Int) := by
    rw [ti_add (x := 616) (a := 616) rfl (ti_mul h1 (y := 25) (b := 25) rfl (by omega) (by omega)) (by omega) (by omega)]; omega
  unfold mX7_remove
  refine gOk_let (gOk_let (gOk_jon ?_))
  generalize 616 + (a1 * 25) = X3 at *
  refine gOk_fx2 (fun v (x9 : Int32) (μ10 : gM) => ∃ k, v = 616 + 25 * (c - 1) - k ∧ 616 + 25 * w ≤ k ∧ k ≤ 616 + 25 * (c - 1) ∧ x9.toInt = (k : Int) ∧ gF1 μ μ10 ∧ (μ10 1 0 3).toInt = ((c - 1 : Nat) : Int) ∧ (∀ j, j < 616 + 25 * w → j ≠ 3 → μ10 1 0 j = μ 1 0 j) ∧ (∀ j, 616 + 25 * w ≤ j → j < k → μ10 1 0 j = μ 1 0 (j + 25)) ∧ ∀ j, k ≤ j → μ10 1 0 j = μ 1 0 j) ?_ 1000000 (616 + 25 * (c - 1) - (616 + 25 * w)) _ _ (by omega) ⟨616 + 25 * w, rfl, Nat.le_refl _, by omega, x3, gF1.w, ?_, fun j hj h3 => ?_, fun j hj hj' => absurd hj' (by omega), fun j hj => ?_⟩
  · intro rec v x9 μ10 hI ih
    obtain ⟨k, hv, k1, k2, k3, k4, k5, k6, k7, k8⟩ := hI
    subst hv
    have e := ti_add (x := 616) (a := 616) rfl (ti_mul k5 (y := 25) (b := 25) rfl (by omega) (by omega)) (by omega) (by omega)
    refine gOk_le e k3 (fun q => gOk_some ⟨k4, ?_⟩) (fun q => ?_)
    · have hk : k = 616 + 25 * (c - 1) := by omega
      refine ⟨⟨?_, ?_, ?_, ?_, fun i hi => ?_, fun j j1 j2 => ?_, fun t ht => ?_⟩, fun v hv => ?_, fun i m hm => ?_⟩
      · rw [k6 0 (by omega) (by omega)]; exact g1
      · rw [k6 1 (by omega) (by omega)]; exact g2
      · rw [k6 2 (by omega) (by omega)]; exact g3
      · show (μ10 1 0 3).toInt = (((zms S).eraseIdx w).length : Nat)
        rw [k5, List.length_eraseIdx, hL, if_pos hw]
      · rw [k6 (4 + i) (by omega) (by omega)]; exact g5 i hi
      · rw [k6 (9 + j) (by omega) (by omega)]; exact g6 j j1 j2
      · rw [k6 (16 + t) (by omega) (by omega)]; exact g7 t ht
      · exact (R.1.2.1 v hv).cg (fun k hk => k6 _ (by omega) (by omega))
      · have hm' : ((zms S).eraseIdx w)[i]? = some m := hm
        rw [List.getElem?_eraseIdx] at hm'
        by_cases z : i < w
        · rw [if_pos z] at hm'
          exact (R.1.2.2 i m hm').cg (R.2.1.2.ml R.2.1 (List.mem_of_getElem? hm')) (fun k hk => k6 _ (by omega) (by omega))
        · rw [if_neg z] at hm'
          have hil := (List.getElem?_eq_some_iff.mp hm').1
          refine (R.1.2.2 (i + 1) m hm').cg (R.2.1.2.ml R.2.1 (List.mem_of_getElem? hm')) (fun j hj => ?_)
          show μ10 1 0 (616 + 25 * i + j) = μ 1 0 (616 + 25 * (i + 1) + j)
          rw [k7 _ (by omega) (by omega)]
          congr 1
          omega
    · have e25 : (x9 + 25).toInt = ((k + 25 : Nat) : Int) := by rw [ti_add k3 (y := 25) (b := 25) rfl (by omega) (by omega)]; omega
      have e1 : (x9 + 1).toInt = ((k + 1 : Nat) : Int) := by rw [ti_add k3 (y := 1) (b := 1) rfl (by omega) (by omega)]; omega
      refine gOk_chk (ti_inb e25 (by omega)) (gOk_chk (ti_inb k3 (by omega)) (gOk_let (ih _ _ (616 + 25 * (c - 1) - (k + 1)) (by omega) ⟨k + 1, rfl, by omega, by omega, e1, k4.tr gF1.w, ?_, fun j hj h3 => ?_, fun j hj hj' => ?_, fun j hj => ?_⟩)))
      · rw [ti_cl k3, w3_10, upd_ne _ _ (by omega)]; exact k5
      · rw [ti_cl k3, w3_10, upd_ne _ _ (by omega)]; exact k6 j hj h3
      · rw [ti_cl k3, w3_10, ti_cl e25]
        by_cases z : j = k
        · rw [z, upd_at]; exact k8 _ (by omega)
        · rw [upd_ne _ _ z]; exact k7 j hj (by omega)
      · rw [ti_cl k3, w3_10, upd_ne _ _ (by omega)]; exact k8 j (by omega)
  · rw [w3_10, upd_at, e4]; omega
  · rw [w3_10, upd_ne _ _ h3]
  · rw [w3_10, upd_ne _ _ (by omega)]
theorem mX7_firstDue_ok (R : RZ B (μ 1 0) S) : gOk (mX7_firstDue μ) (fun r => (r.toInt = -1 ∧ ∀ (i : Nat) (m : sqMs), (zms S)[i]? = some m → zti S < mdu m) ∨ ∃ w m, r.toInt = ((w : Nat) : Int) ∧ (zms S)[w]? = some m ∧ mdu m ≤ zti S ∧ ∀ (i : Nat) (m' : sqMs), i < w → (zms S)[i]? = some m' → zti S < mdu m') := by
  have hc := R.cnt
  obtain ⟨g1, g2, g3, g4, g5, g6, g7⟩ := R.1.1
  unfold mX7_firstDue
  refine gOk_jon (gOk_fx1 (fun v (x3 : Int32) => ∃ k, v = (zms S).length - k ∧ k ≤ (zms S).length ∧ x3.toInt = (k : Int) ∧ ∀ (i : Nat) (m' : sqMs), i < k → (zms S)[i]? = some m' → zti S < mdu m') ?_ 1000000 (zms S).length _ (by omega) ⟨0, rfl, Nat.zero_le _, rfl, fun i m' hi => absurd hi (Nat.not_lt_zero i)⟩)
  intro rec v x3 hI ih
  obtain ⟨k, hv, k1, k2, k3⟩ := hI
  subst hv
  refine gOk_le g4 k2 (fun q => gOk_some (Or.inl ⟨ti_m1, fun i m' hm => k3 i m' ?_ hm⟩)) (fun q => ?_)
  · have := (List.getElem?_eq_some_iff.mp hm).1
    omega
  · have hk : k < (zms S).length := by omega
    have hm := List.getElem?_eq_getElem hk
    have hM := R.1.2.2 k _ hm
    have hd := hM.2.2.2.2.1
    refine gOk_be (mX7_part_ok μ k2 (k := 4) rfl (by omega) (by omega)) (gOk_lt g1 hd (fun w => ?_) (fun w => gOk_some (Or.inr ⟨k, _, k2, hm, by omega, k3⟩)))
    refine ih _ ((zms S).length - (k + 1)) (by omega) ⟨k + 1, rfl, by omega, by rw [ti_add k2 (y := 1) (b := 1) rfl (by omega) (by omega)]; omega, fun i m' hi hm' => ?_⟩
    by_cases z : i = k
    · rw [z, hm] at hm'
      rw [← Option.some.inj hm']
      omega
    · exact k3 i m' (by omega) hm'
theorem mX7_goOn_ok (R : RZ B (μ 1 0) S) (hB : B + 3 < 1000000000) (hn : n < 5) (h1 : a1.toInt = (n : Int)) (hu : nup (zno S n) = true) (hZ : ∀ x : Int32, zIL B (zN S n (nTi (zno S n) x))) : gOk (mX7_goOn a1 μ) (fun μ' => gF1 μ μ' ∧ RZ (B + 3) (μ' 1 0) (zCnt S n)) := by
  have hR := R.1.2.1 n hn
  have r1 := hR.2.1
  have r5 := hR.2.2.1
  have up : ∀ {μ' : gM} {S' : sqSt}, RZ B (μ' 1 0) S' → RZ (B + 3) (μ' 1 0) S' := fun r => ⟨r.1, ⟨r.2.1.1, r.2.1.2.up (by omega)⟩, hB⟩
  unfold mX7_goOn
  refine gOk_be (mX7_of_ok μ h1 (k := 1) rfl hn (by omega)) (gOk_lee (fun x3 h3 => ?_))
  have hx3 : x3 = 0 ↔ nro (zno S n) ≠ 2 := by
    rw [h3]
    by_cases w : rN (μ 1 0) n 1 = 2
    · rw [if_pos w]
      have : (rN (μ 1 0) n 1).toInt = 2 := by rw [w]; rfl
      exact ⟨fun y => absurd y (by decide), fun y => absurd (by omega) y⟩
    · rw [if_neg w]
      exact ⟨fun _ y => w (ti_eq r1 (by rw [y]; rfl)), fun _ => rfl⟩
  refine gOk_jq (γ := Unit) (fun _ => nro (zno S n) = 2 ∨ zmem S (zno S n) n = true) (fun _ hc => ?_) (fun j7 hj7 => ?_)
  · unfold zCnt
    rw [if_pos ⟨hu, hc⟩]
    refine gOk_be (mX7_of_ok μ h1 (k := 5) rfl hn (by omega)) (gOk_be (mX7_set_ok μ h1 (k := 5) rfl hn (by omega)) (gOk_be (mX7_of_ok _ h1 (k := 5) rfl hn (by omega)) ?_))
    have e5 : rN (w3 μ 1 0 (116 + 100 * n + 5) (rN (μ 1 0) n 5 - 1) 1 0) n 5 = nti (zno S n) - 1 := by rw [w3_10, rN_upd, upd_at, r5]
    rw [e5]
    have R1 : RZ B (w3 μ 1 0 (116 + 100 * n + 5) (rN (μ 1 0) n 5 - 1) 1 0) (zN S n (nTi (zno S n) (nti (zno S n) - 1))) := by
      refine ⟨?_, hZ _, R.2.2⟩
      rw [w3_10, r5]
      exact R.1.nd1 R.2.1 hn (by omega) (hR.ti _)
    by_cases q : nti (zno S n) - 1 = 0
    · rw [if_pos q, if_pos q]
      refine gOk_if (fun z => ?_) (fun z => ?_)
      · have hr := hx3.mp z
        rw [if_neg hr]
        refine gOk_bp (mX7_stand_ok R1 hB hn h1 (by rw [zN_at]; exact hu) (by rw [zN_at]; exact hc.resolve_left hr)) (fun μ17 h17 => gOk_some ⟨gF1.w.tr h17.1, h17.2⟩)
      · have hr : nro (zno S n) = 2 := Classical.byContradiction fun y => z (hx3.mpr y)
        rw [if_pos hr]
        refine gOk_be (mX7_set_ok _ h1 (k := 5) rfl hn (by omega)) ?_
        have R2 : RZ B (w3 (w3 μ 1 0 (116 + 100 * n + 5) (rN (μ 1 0) n 5 - 1)) 1 0 (116 + 100 * n + 5) 3 1 0) (zN S n (nTi (zno S n) 3)) := by
          refine ⟨?_, hZ _, R.2.2⟩
          simp only [w3_10]
          refine R.1.nd R.2.1 hn (fun k hk => by rw [upd_ne _ _ (by omega), upd_ne _ _ (by omega)]) ?_
          rw [rN_upd, rN_upd]
          exact (hR.ti (rN (μ 1 0) n 5 - 1)).ti 3
        refine gOk_bp (mX7_sendToAll_ok R2 hn h1 (by rw [zN_at]; exact hr)) (fun μ21 h21 => gOk_some ⟨gF1.w.tr (gF1.w.tr h21.1), up h21.2⟩)
    · rw [if_neg q, if_neg q]
      exact gOk_some ⟨gF1.w, up R1⟩
  · refine gOk_if (fun z => ?_) (fun z => hj7 () (Or.inl (Classical.byContradiction fun y => z (hx3.mpr y))))
    have hr := hx3.mp z
    refine gOk_bp (mX7_members_ok R hn h1) (fun r25 h25 => ?_)
    obtain ⟨c, c1, c2, c3⟩ := h25
    refine gOk_bp (mX7_has_ok μ c1 hn c2 h1) (fun r27 h27 => ?_)
    rw [c3] at h27
    by_cases w : zmem S (zno S n) n = true
    · rw [if_pos w] at h27
      exact gOk_if (fun y => absurd (h27.symm.trans y) (by decide)) (fun _ => hj7 () (Or.inr w))
    · rw [if_neg w] at h27
      refine gOk_if (fun _ => gOk_some ⟨gF1.rf, ?_⟩) (fun y => absurd h27 y)
      unfold zCnt
      rw [if_neg (fun y => y.2.elim hr w)]
      exact up R
end SqRef19
