/-! The reference: requests that are received. -/
section SqRef13
variable {μ : gM} {S : sqSt} {B n k i : Nat} {a1 a2 a3 a4 a5 : Int32} {N : sqN} {A A' : Nat → Int32} {m : sqMs}
theorem RN.vo {r : Nat → Int32} {g : Nat} (h : RN r g N) {c : Nat} {x : Int32} (hx : x.toInt = (c : Int)) : RN (upd r 3 x) g (nVo N c) := by
  obtain ⟨h1, h2, h3, h4, h5, h6, h7, h8, h9, h10, h11, h12⟩ := h.1
  refine ⟨⟨?_, ?_, ?_, ?_, ?_, ?_, ?_, ?_, ?_, ?_, h11, fun j e hj => ?_⟩, RN1.cg (N := N) h.2 (fun k a b => upd_ne _ _ (by omega))⟩
  · rw [upd_ne _ _ (by omega)]; exact h1
  · rw [upd_ne _ _ (by omega)]; exact h2
  · rw [upd_at]; exact hx
  · rw [upd_ne _ _ (by omega)]; exact h4
  · rw [upd_ne _ _ (by omega)]; exact h5
  · rw [upd_ne _ _ (by omega)]; exact h6
  · rw [upd_ne _ _ (by omega)]; exact h7
  · rw [upd_ne _ _ (by omega)]; exact h8
  · rw [upd_ne _ _ (by omega)]; exact h9
  · rw [upd_ne _ _ (by omega)]; exact h10
  · rw [upd_ne _ _ (by omega), upd_ne _ _ (by omega), upd_ne _ _ (by omega)]; exact h12 j e hj
theorem zIL.vote (I : zIL B S) (hn : n < 5) {h : sqH} (M : ∀ h, zI h S → sqMI h m) (hk : mki m = 0) (q : zGr (zno S n) m = true) (x : Int32) : zIL B (zN S n (nTi (nVo (zno S n) (mse m)) x)) := by
  obtain ⟨⟨h, I0⟩, L⟩ := I
  refine ⟨?_, L.node (L.2.2.2.1 n hn)⟩
  have a := I0.2.2.1 n hn
  obtain ⟨⟨m1, m2, m3⟩, m4, -⟩ := M h I0
  obtain ⟨k1, k2, k3⟩ := m4 hk
  obtain ⟨q1, q2, q3⟩ := of_decide_eq_true q
  rw [q1] at k1 k2 k3
  rw [k1, k2] at q3
  rcases q2 with q2 | q2
  · obtain ⟨b1, b2, b3⟩ := sq_vote (N' := nTi (nVo (zno S n) (mse m)) x) I0.2.1 a q2 k3 q3 rfl rfl rfl rfl rfl rfl rfl rfl
    exact ⟨_, I0.grow b1 b2 b3⟩
  · have a1 : sqNI h n (nTi (nVo (zno S n) (mse m)) x) := sqNI.same a rfl q2.symm rfl ⟨Nat.le_refl _, a.2.2.2.1.1⟩ (Nat.le_refl _) (fun r => ⟨r, (a.2.2.2.2.1 r).2.2.2⟩) (fun r => ⟨r, (a.2.2.2.2.2 r).2.2.2⟩)
    exact ⟨h, I0.node a1⟩
theorem RZ.vote (R : RZ B A S) (hn : n < 5) (hZ : ∀ x : Int32, zGr (zno S n) m = true → zIL B (zN S n (nTi (nVo (zno S n) (mse m)) x))) (hg : zGr (zno S n) m = true) {x v : Int32} (hv : v.toInt = (mse m : Int)) (hA : A' = upd (upd A (116 + 100 * n + 3) v) (116 + 100 * n + 5) x) {S1 : sqSt} (e : S1 = zN S n (nTi (nVo (zno S n) (mse m)) x)) : RZ B A' S1 := by
  have hR := R.1.2.1 n hn
  subst e
  refine ⟨R.1.nd R.2.1 hn (fun k hk => ?_) ?_, hZ x hg, R.2.2⟩
  · rw [hA, upd_ne _ _ (by omega), upd_ne _ _ (by omega)]
  · rw [hA, rN_upd, rN_upd]
    exact (hR.vo hv).ti x
theorem mX7_req_fin (R : RZ B (μ 1 0) S) (hn : n < 5) (h1 : a1.toInt = (n : Int)) (hG : RM (μ 4 0) (zg S) m) (hs : mse m < 5) (hZ : ∀ x : Int32, zGr (zno S n) m = true → zIL B (zN S n (nTi (nVo (zno S n) (mse m)) x))) {x17 : Int32} (hx : x17 = if zGr (zno S n) m = true then 1 else 0) {x1 : Int32} (hx1 : x1 = μ 4 0 1) : gOk (
              gJon (fun (μ19 : gM) =>
                  gLet (α := Int32) (if x17 = 0 then 0 else 1) fun x21 =>
                  gBd (mX7_send 1 a1 x1 0 x21 μ19) fun r26 μ27 =>
                  some μ27) fun j20 =>
              if x17 = 0 then
                j20 μ
              else
                gBp (mX7_set a1 3 x1 μ) fun μ30 =>
                gBp (mX7_resetTimer a1 μ30) fun μ32 =>
                j20 μ32) (fun μ' => gF1 μ μ' ∧ RA (μ' 1 0) (zReq S n m)) := by
  have hR := R.1.2.1 n hn
  have r2 := hR.1.2.1
  have hse : x1.toInt = (mse m : Int) := by rw [hx1]; exact hG.2.1
  unfold zReq
  by_cases q : zGr (zno S n) m = true
  · rw [if_pos q] at hx ⊢
    subst hx
    refine gOk_jon (gOk_if (fun z => absurd z (by decide)) (fun _ => ?_))
    refine gOk_be (mX7_set_ok μ h1 (k := 3) rfl hn (by omega)) ?_
    have hrr := mX7_reset_raw (S := S) hn h1 (T := ntm (zno S n)) (w3 μ 1 0 (116 + 100 * n + 3) x1) (by rw [w3_10, upd_ne _ _ (by omega)]; exact R.1.1.2.2.1) (by rw [w3_10, rN_upd, upd_ne _ _ (by omega)]; exact r2)
    generalize hxx : zTim S n (ntm (zno S n)) = x at hrr
    refine gOk_bp hrr (fun μ32 h32 => gOk_let ?_)
    have hA : μ32 1 0 = upd (upd (μ 1 0) (116 + 100 * n + 3) x1) (116 + 100 * n + 5) x := by rw [h32]; simp only [w3_10]
    have F32 : gF1 μ μ32 := by rw [h32]; exact gF1.w.tr gF1.w
    have e1 := R.vote hn hZ q hse hA rfl
    refine gOk_bd (mX7_plain_ok e1 hn hs (k := 1) (ix := 0) (fl := 1) ⟨by omega, by omega⟩ rfl h1 hse rfl rfl) (fun r26 μ27 h27 => gOk_some ⟨F32.tr h27.1, ?_⟩)
    have h2 := h27.2
    rw [zN_at] at h2
    exact h2
  · rw [if_neg q] at hx ⊢
    subst hx
    refine gOk_jon (gOk_if (fun _ => gOk_let ?_) (fun z => absurd rfl z))
    exact gOk_bd (mX7_plain_ok R hn hs (k := 1) (ix := 0) (fl := 0) ⟨by omega, by omega⟩ rfl h1 hse rfl rfl) (fun r26 μ27 h27 => gOk_some h27)
theorem mX7_req_mid (R : RZ B (μ 1 0) S) (hn : n < 5) (h1 : a1.toInt = (n : Int)) (hG : RM (μ 4 0) (zg S) m) (hs : mse m < 5) (hZ : ∀ x : Int32, zGr (zno S n) m = true → zIL B (zN S n (nTi (nVo (zno S n) (mse m)) x))) {x9 : Int32} (hx : x9 = 0 ∨ x9 = 1) (hx9 : x9 = 1 ↔ (sqTT (nlg (zno S n)) (nlg (zno S n)).length < mfl m ∨ (sqTT (nlg (zno S n)) (nlg (zno S n)).length = mfl m ∧ (nlg (zno S n)).length ≤ mix m))) {x1 : Int32} (hx1 : x1 = μ 4 0 1) : gOk (
      gBp (mX7_of a1 3 μ) fun r12 =>
      gJon (fun (x13 : Int32) =>
          gBp (mX7_of a1 2 μ) fun r16 =>
          gJon (fun (x17 : Int32) =>
              gJon (fun (μ19 : gM) =>
                  gLet (α := Int32) (if x17 = 0 then 0 else 1) fun x21 =>
                  gBd (mX7_send 1 a1 x1 0 x21 μ19) fun r26 μ27 =>
                  some μ27) fun j20 =>
              if x17 = 0 then
                j20 μ
              else
                gBp (mX7_set a1 3 x1 μ) fun μ30 =>
                gBp (mX7_resetTimer a1 μ30) fun μ32 =>
                j20 μ32) fun j18 =>
          gJon (fun (u34 : Unit) =>
              j18 0) fun j33 =>
          if (μ 4 0 3) = r16 then
            if x13 = 0 then
              j33 () 
            else
              gLet (α := Int32) (if x9 = 0 then 0 else 1) fun x37 =>
              gJon (fun (μ41 : gM) =>
                  gLet (α := Int32) (if x37 = 0 then 0 else 1) fun x43 =>
                  gBd (mX7_send 1 a1 x1 0 x43 μ41) fun r48 μ49 =>
                  some μ49) fun j42 =>
              if x37 = 0 then
                j42 μ
              else
                gBp (mX7_set a1 3 x1 μ) fun μ52 =>
                gBp (mX7_resetTimer a1 μ52) fun μ54 =>
                j42 μ54
          else
            j33 () ) fun j14 =>
      gJon (fun (u56 : Unit) =>
          j14 1) fun j55 =>
      if r12 = (-1) then
        j55 () 
      else
        gBp (mX7_of a1 3 μ) fun r59 =>
        gLet (α := Int32) (if r59 = x1 then 1 else 0) fun x60 =>
        gBp (mX7_of a1 2 μ) fun r65 =>
        gJon (fun (x66 : Int32) =>
            gJon (fun (μ68 : gM) =>
                gLet (α := Int32) (if x66 = 0 then 0 else 1) fun x70 =>
                gBd (mX7_send 1 a1 x1 0 x70 μ68) fun r75 μ76 =>
                some μ76) fun j69 =>
            if x66 = 0 then
              j69 μ
            else
              gBp (mX7_set a1 3 x1 μ) fun μ79 =>
              gBp (mX7_resetTimer a1 μ79) fun μ81 =>
              j69 μ81) fun j67 =>
        gJon (fun (u83 : Unit) =>
            j67 0) fun j82 =>
        if (μ 4 0 3) = r65 then
          if x60 = 0 then
            j82 () 
          else
            gLet (α := Int32) (if x9 = 0 then 0 else 1) fun x86 =>
            gJon (fun (μ90 : gM) =>
                gLet (α := Int32) (if x86 = 0 then 0 else 1) fun x92 =>
                gBd (mX7_send 1 a1 x1 0 x92 μ90) fun r97 μ98 =>
                some μ98) fun j91 =>
            if x86 = 0 then
              j91 μ
            else
              gBp (mX7_set a1 3 x1 μ) fun μ101 =>
              gBp (mX7_resetTimer a1 μ101) fun μ103 =>
              j91 μ103
        else
          j82 () ) (fun μ' => gF1 μ μ' ∧ RA (μ' 1 0) (zReq S n m)) := by
  have hR := R.1.2.1 n hn
  have r2 := hR.1.2.1
  have r3 := hR.1.2.2.1
  have h43 := hG.2.2.2.1
  have hse : x1.toInt = (mse m : Int) := by rw [hx1]; exact hG.2.1
  have no : (¬ (mtm m = ntm (zno S n) ∧ (nvo (zno S n) = none ∨ nvo (zno S n) = some (mse m)) ∧ (sqTT (nlg (zno S n)) (nlg (zno S n)).length < mfl m ∨ (sqTT (nlg (zno S n)) (nlg (zno S n)).length = mfl m ∧ (nlg (zno S n)).length ≤ mix m)))) → (0 : Int32) = if zGr (zno S n) m = true then 1 else 0 := fun q => by
    rw [if_neg]
    unfold zGr
    rw [decide_eq_true_eq]; exact q
  have yes : mtm m = ntm (zno S n) → (nvo (zno S n) = none ∨ nvo (zno S n) = some (mse m)) → (if x9 = 0 then (0 : Int32) else 1) = if zGr (zno S n) m = true then 1 else 0 := fun q1 q2 => by
    rcases hx with z | z
    · rw [if_pos z, if_neg]
      unfold zGr
      rw [decide_eq_true_eq]
      intro w
      have := hx9.mpr w.2.2
      rw [z] at this
      exact absurd this (by decide)
    · rw [if_neg (by rw [z]; decide), if_pos]
      unfold zGr
      rw [decide_eq_true_eq]
      exact ⟨q1, q2, hx9.mp z⟩
  refine gOk_be (mX7_of_ok μ h1 (k := 3) rfl hn (by omega)) (gOk_jon (gOk_jon ?_))
  refine gOk_eq r3 ti_m1 (fun q => ?_) (fun q => ?_)
  · have hv : nvo (zno S n) = none := by
      cases z : nvo (zno S n) with
      | none => rfl
      | some c => rw [z] at q; exact absurd q (by show ¬ ((c : Int) = -1); omega)
    refine gOk_be (mX7_of_ok μ h1 (k := 2) rfl hn (by omega)) (gOk_jon (gOk_jon (gOk_eq h43 r2 (fun w => ?_) (fun w => ?_))))
    · refine gOk_if (fun z => absurd z (by decide)) (fun _ => gOk_let ?_)
      exact mX7_req_fin R hn h1 hG hs hZ (yes (by omega) (Or.inl hv)) hx1
    · exact mX7_req_fin R hn h1 hG hs hZ (no (fun z => w (by omega))) hx1
  · refine gOk_be (mX7_of_ok μ h1 (k := 3) rfl hn (by omega)) (gOk_lee (fun x60 h60 => gOk_be (mX7_of_ok μ h1 (k := 2) rfl hn (by omega)) (gOk_jon (gOk_jon (gOk_eq h43 r2 (fun w => ?_) (fun w => ?_))))))
    · refine gOk_if (fun z => ?_) (fun z => gOk_let ?_)
      · refine mX7_req_fin R hn h1 hG hs hZ (no (fun y => ?_)) hx1
        rcases y.2.1 with v | v
        · rw [v] at q; exact q rfl
        · rw [v] at r3
          have : rN (μ 1 0) n 3 = x1 := ti_eq r3 hse
          rw [h60, if_pos this] at z
          exact absurd z (by decide)
      · have : rN (μ 1 0) n 3 = x1 := Classical.byContradiction fun v => z (by rw [h60, if_neg v])
        rw [this, hse] at r3
        refine mX7_req_fin R hn h1 hG hs hZ (yes (by omega) (Or.inr ?_)) hx1
        cases y : nvo (zno S n) with
        | none => rw [y] at r3; exact absurd r3 (by show ¬ ((mse m : Int) = -1); omega)
        | some c => rw [y] at r3; have : ((mse m : Nat) : Int) = (c : Int) := r3; congr 1; omega
    · exact mX7_req_fin R hn h1 hG hs hZ (no (fun z => w (by omega))) hx1
theorem mX7_receiveRequest_ok (R : RZ B (μ 1 0) S) (hn : n < 5) (h1 : a1.toInt = (n : Int)) (hG : RM (μ 4 0) (zg S) m) (hs : mse m < 5) (hZ : ∀ x : Int32, zGr (zno S n) m = true → zIL B (zN S n (nTi (nVo (zno S n) (mse m)) x))) : gOk (mX7_receiveRequest a1 μ) (fun μ' => gF1 μ μ' ∧ RA (μ' 1 0) (zReq S n m)) := by
  have hb := R.bd hn
  have h46 := hG.2.2.2.2.2.2.1
  have h45 := hG.2.2.2.2.2.1
  unfold mX7_receiveRequest
  refine gOk_let (gOk_bp (mX7_last_ok R.1 R.2.1.2 R.2.2 hn h1) (fun r6 h6 => gOk_bp (mX7_termAt_ok R.1 R.2.1.2 R.2.2 hn h1 h6 hb.2.1 (Nat.le_refl _)) (fun r8 h8 => gOk_jon (gOk_jon (gOk_lt h8 h46 (fun q => ?_) (fun q => ?_))))))
  · exact mX7_req_mid R hn h1 hG hs hZ (Or.inr rfl) ⟨fun _ => Or.inl (by omega), fun _ => rfl⟩ rfl
  · refine gOk_jon (gOk_eq h46 h8 (fun w => ?_) (fun w => ?_))
    · refine gOk_bp (mX7_last_ok R.1 R.2.1.2 R.2.2 hn h1) (fun r111 h111 => gOk_lee (fun x112 h112 => ?_))
      refine mX7_req_mid R hn h1 hG hs hZ ?_ ?_ rfl
      · by_cases z : μ 4 0 5 < r111
        · rw [if_pos z] at h112; exact Or.inl h112
        · rw [if_neg z] at h112; exact Or.inr h112
      · by_cases z : μ 4 0 5 < r111
        · rw [if_pos z] at h112
          have := Int32.lt_iff_toInt_lt.mp z
          rw [h45, h111] at this
          rw [h112]
          exact ⟨fun y => absurd y (by decide), fun y => by omega⟩
        · rw [if_neg z] at h112
          have := Int.not_lt.mp (fun y => z (Int32.lt_iff_toInt_lt.mpr y))
          rw [h45, h111] at this
          rw [h112]
          exact ⟨fun _ => Or.inr ⟨by omega, by omega⟩, fun _ => rfl⟩
    · exact mX7_req_mid R hn h1 hG hs hZ (Or.inl rfl) ⟨fun y => absurd y (by decide), fun y => by omega⟩ rfl
end SqRef13
