/-! The class: requests that come in. -/
theorem gOk_jq2 {α γ δ : Type} {e : γ → δ → Option α} {k : (γ → δ → Option α) → Option α} {Q : α → Prop} (P : γ → δ → Prop) (he : ∀ c d, P c d → gOk (e c d) Q) (hk : ∀ j : γ → δ → Option α, (∀ c d, P c d → gOk (j c d) Q) → gOk (k j) Q) : gOk (gJon e k) Q := hk e he
section SqClq
variable {μ μ' μ1 : gM} {n g b k i nc B t t1 s q kk : Nat} {l : List sqE} {a1 a2 a3 a4 : Int32} {e : sqE} {m : sqMs} {S S' : sqSt} {N : sqN}
theorem BN.vo (h : BN μ k n g N) {x : Int32} {c : Nat} (hx : x.toInt = (c : Int)) : BN (w3 μ 11 k 8 x) k n g (nVo N c) := by
  obtain ⟨⟨h0, h5, h7, h8, h9, hl, hf⟩, h6, h10, h11, h13⟩ := h
  refine ⟨⟨by rw [w3_o _ _ (by omega)]; exact h0, by rw [w3_o _ _ (by omega)]; exact h5, by rw [w3_o _ _ (by omega)]; exact h7, by rw [w3_at]; exact hx, by rw [w3_o _ _ (by omega)]; exact h9, hl.cg (fun j _ _ => w3_o _ _ (by omega)) (fun f j _ _ _ => w3_o _ _ (by omega)), ?_⟩, by rw [w3_o _ _ (by omega)]; exact h6, by rw [w3_o _ _ (by omega)]; exact h10, fun r => by rw [w3_o _ _ (by omega)]; exact h11 r, fun r u hu => ?_⟩
  · unfold CF
    rw [w3_o _ _ (by omega), w3_o _ _ (by omega), w3_o _ _ (by omega)]
    exact hf
  · rw [w3_o _ _ (by omega), w3_o _ _ (by omega), w3_o _ _ (by omega)]
    exact h13 r u hu
theorem mX0_reply_ok (h : RB μ q S) (hq : q < nc) (hnc : nc ≤ 2) (hn : n < 5) (hT : zti S + zde S < 2000000000) (hm : (μ 19 t 5).toInt = (mse m : Int)) (hse : mse m < 5) {fl : Nat} (hf : fl ≤ 1) {x1 : Int32} (hx : x1.toInt = (fl : Int)) : gOk (
          gBd (mX0_open nc q 1 (5 * q + n) (μ 19 t 5) μ) fun r6 μ7 =>
          gChk (r6 < 42 * nc) <|
          gChk (x1 = 0 ∨ x1 = 1) <|
          gLet (α := gM) (w3 μ7 19 r6 12 x1) fun μ10 =>
          gBp (mX3_post nc q μ10) fun μ13 =>
          some ((0 : Int32), μ13)) (fun p => p.1 = 0 ∧ gFr (rbP q) μ p.2 ∧ RB p.2 q (zPost S (1, n, mse m, ntm (zno S n), zti S + zde S, 0, fl, zti S, 0, 0, []))) := by
  have hrow := h.rows
  have h31 : x1 = 0 ∨ x1 = 1 := by
    rcases (show fl = 0 ∨ fl = 1 by omega) with z | z
    · exact Or.inl (ti_eq (hx.trans (by rw [z]; rfl)) rfl)
    · exact Or.inr (ti_eq (hx.trans (by rw [z]; rfl)) rfl)
  refine gOk_bd (mX0_open_ok h hq hn hT (kd := 1) rfl hm) (fun r2 μ3 hp => ?_)
  obtain ⟨p1, p2, p3⟩ := hp
  have p1 : r2 = nwP μ q 40 := p1
  have p2 : gFr (mgP (nwP μ q 40)) μ μ3 := p2
  have p3 : opC μ3 (nwP μ q 40) 1 n (mse m) (ntm (zno S n)) (zti S + zde S) (zti S) := p3
  rw [p1]
  refine gOk_chk (h.1.num hq (by omega)) (gOk_chk h31 (gOk_lee (fun μ6 h6 => ?_)))
  have F6 : gFr (mgP (nwP μ q 40)) μ μ6 := p2.tr (by rw [h6]; exact gFr.w ⟨rfl, by omega⟩)
  have hd := h.draft F6
  obtain ⟨o3, o4, o5, o6, o7, o8, o9, o10, o11, o12, o13⟩ := p3
  have up : ∀ j, j ≠ 12 → μ6 19 (nwP μ q 40) j = μ3 19 (nwP μ q 40) j := fun j j1 => by rw [h6, w3_o _ _ (by omega)]
  have bm : BM μ6 (nwP μ q 40) (zg S) (1, n, mse m, ntm (zno S n), zti S + zde S, 0, fl, zti S, 0, 0, []) := by
    have c12 : μ6 19 (nwP μ q 40) 12 = x1 := by rw [h6, w3_at]
    refine ⟨?_, ?_, ?_, ?_, ?_, ?_, ?_, by rw [c12]; exact h31, fun z => (by cases z), fun _ => by rw [c12]; exact hx, fun z => (by cases z), fun z => (by cases z)⟩
    · rw [up 4 (by omega)]; exact o4
    · rw [up 5 (by omega)]; exact o5
    · rw [up 6 (by omega)]; exact o6
    · rw [up 7 (by omega)]; exact o7
    · rw [up 8 (by omega)]; exact o8
    · rw [up 9 (by omega)]; exact o9
    · rw [up 10 (by omega)]; exact o10
  refine gOk_bp (hd.post hq hnc (by rw [h.place F6]; exact bm) hn hse) (fun μ13 h13 => gOk_some ⟨rfl, (F6.up (mgP_rb hrow.2 hrow.1)).tr (h13.1.up npP_rb), h13.2⟩)
theorem mX0_req_fin (h : RY B μ q S) (hq : q < nc) (hnc : nc ≤ 2) (hn : n < 5) (hm : BM μ t g m) (ht : 42 * q ≤ t ∧ t < 42 * q + 42) (hse : mse m < 5) {x1 : Int32} (hx : x1 = if zGr (zno S n) m = true then 1 else 0) : gOk (
      gJon (fun (μ3 : gM) =>
          gBd (mX0_open nc q 1 (5 * q + n) (μ3 19 t 5) μ3) fun r6 μ7 =>
          gChk (r6 < 42 * nc) <|
          gChk (x1 = 0 ∨ x1 = 1) <|
          gLet (α := gM) (w3 μ7 19 r6 12 x1) fun μ10 =>
          gBp (mX3_post nc q μ10) fun μ13 =>
          some ((0 : Int32), μ13)) fun j4 =>
      if x1 = 0 then
        j4 μ
      else
        gLet (α := gM) (w3 μ 11 (5 * q + n) 8 (μ 19 t 5)) fun μ15 =>
        gBp (mX0_resetTimer nc q (5 * q + n) μ15) fun μ18 =>
        j4 μ18) (fun p => p.1 = 0 ∧ gFr (rbP q) μ p.2 ∧ RB p.2 q (zReq S n m)) := by
  have hb := h.1.2.1 n hn
  have hT := h.tm
  unfold zReq
  by_cases w : zGr (zno S n) m = true
  · rw [if_pos w] at hx
    rw [if_pos w]
    subst hx
    refine gOk_jon (gOk_if (fun z => absurd z (by decide)) (fun _ => gOk_lee (fun μ15 h15 => ?_)))
    have F15 : gFr (bnP (5 * q + n)) μ μ15 := by rw [h15]; exact gFr.w ⟨rfl, by omega⟩
    have b15 : BN μ15 (5 * q + n) n (zg S) (nVo (zno S n) (mse m)) := by rw [h15]; exact hb.vo hm.2.1
    refine gOk_bp (mX0_resetTimer_ok (h.1.node hn F15 b15) hn) (fun μ18 h18 => ?_)
    have F18 := F15.tr h18.1
    have r18 := h18.2
    rw [zN_at, zN_zN, zTim_zN] at r18
    have et : ntm (nVo (zno S n) (mse m)) = ntm (zno S n) := rfl
    rw [et] at r18
    generalize zTim S n (ntm (zno S n)) = X at *
    have m18 : μ18 19 t 5 = μ 19 t 5 := F18 19 t 5 (fun y => by have := y.2; omega)
    have ez : zno (zN S n (nTi (nVo (zno S n) (mse m)) X)) n = nTi (nVo (zno S n) (mse m)) X := zN_at _ _ _
    have key := mX0_reply_ok (m := m) (t := t) (fl := 1) (x1 := 1) r18 hq hnc hn hT (by rw [m18]; exact hm.2.1) hse (Nat.le_refl 1) rfl
    rw [ez] at key
    exact gOk_imp key (fun p hp => ⟨hp.1, (F18.up (bnP_rb hn)).tr hp.2.1, hp.2.2⟩)
  · rw [if_neg w] at hx
    rw [if_neg w]
    subst hx
    refine gOk_jon (gOk_if (fun _ => ?_) (fun z => absurd rfl z))
    exact mX0_reply_ok (m := m) (t := t) (fl := 0) (x1 := 0) h.1 hq hnc hn hT hm.2.1 hse (Nat.zero_le 1) rfl
theorem mX0_takeRequest_ok (h : RY B μ q S) (hq : q < nc) (hnc : nc ≤ 2) (hn : n < 5) (hm : BM μ t g m) (ht : 42 * q ≤ t ∧ t < 42 * q + 42) (hk : mki m = 0) (hse : mse m < 5) : gOk (mX0_takeRequest nc q (5 * q + n) t μ) (fun p => p.1 = 0 ∧ gFr (rbP q) μ p.2 ∧ RB p.2 q (zReq S n m)) := by
  have hb := h.1.2.1 n hn
  have hlen := h.len hn
  have c11 := hm.2.2.2.2.2.2.2.2.1 hk
  have r3 := hb.1.2.2.2.1
  have r2 := hb.1.2.2.1
  have no : (¬ (mtm m = ntm (zno S n) ∧ (nvo (zno S n) = none ∨ nvo (zno S n) = some (mse m)))) → (0 : Int32) = if zGr (zno S n) m = true then 1 else 0 := fun z => by
    rw [if_neg]
    unfold zGr
    rw [decide_eq_true_eq]
    exact fun w => z ⟨w.1, w.2.1⟩
  unfold mX0_takeRequest
  refine gOk_jon (gOk_jon (gOk_eq hm.2.2.2.1 r2 (fun z1 => ?_) (fun z1 => ?_)))
  · refine gOk_jq (γ := Unit) (fun _ => nvo (zno S n) = none ∨ nvo (zno S n) = some (mse m)) (fun _ hv => ?_) (fun j22 hj22 => ?_)
    · refine gOk_bp (mX1_isNotAheadOf_ok hb.1.2.2.2.2.2.1 (by omega) hm.2.2.2.2.2.2.1 c11) (fun r24 h24 => gOk_lee (fun x25 h25 => ?_))
      refine mX0_req_fin h hq hnc hn hm ht hse ?_
      rcases h24.1 with z | z
      · rw [z, if_pos rfl] at h25
        rw [h25, if_neg]
        unfold zGr
        rw [decide_eq_true_eq]
        intro w
        have := h24.2.mpr w.2.2
        rw [z] at this
        exact absurd this (by decide)
      · rw [z, if_neg (by decide)] at h25
        rw [h25, if_pos]
        unfold zGr
        rw [decide_eq_true_eq]
        exact ⟨by omega, hv, h24.2.mp z⟩
    · refine gOk_eq r3 ti_m1 (fun z => hj22 () (Or.inl ?_)) (fun z => ?_)
      · cases y : nvo (zno S n) with
        | none => rfl
        | some c => rw [y] at z; exact absurd z (by show ¬ ((c : Int) = -1); omega)
      · refine gOk_eq r3 hm.2.1 (fun w => hj22 () (Or.inr ?_)) (fun w => ?_)
        · cases y : nvo (zno S n) with
          | none => rw [y] at z; exact absurd rfl z
          | some c =>
            rw [y] at w
            have : (c : Int) = (mse m : Int) := w
            congr 1
            omega
        · refine mX0_req_fin h hq hnc hn hm ht hse (no (fun y => ?_))
          rcases y.2 with v | v
          · rw [v] at z; exact z rfl
          · rw [v] at w; exact w rfl
  · exact mX0_req_fin h hq hnc hn hm ht hse (no (fun y => z1 (by omega)))
end SqClq
