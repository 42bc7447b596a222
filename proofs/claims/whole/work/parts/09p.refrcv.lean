/-! The reference: appends that are received. -/
theorem gOk_jq {α γ : Type} {e : γ → Option α} {k : (γ → Option α) → Option α} {Q : α → Prop} (P : γ → Prop) (he : ∀ c, P c → gOk (e c) Q) (hk : ∀ j : γ → Option α, (∀ c, P c → gOk (j c) Q) → gOk (k j) Q) : gOk (gJon e k) Q := hk e he
section SqRef16
variable {μ : gM} {S : sqSt} {B n k i : Nat} {a1 a2 a3 a4 a5 : Int32} {N : sqN} {A A' : Nat → Int32} {m : sqMs} {h : sqH}
theorem zIL.app1 (I : zI h S) (L : LI B S) (hn : n < 5) (M : sqMI h m) (LMm : LM B (zti S) m) (hk : mki m = 2) (hr : nro (zno S n) = 0) (ht : mtm m = ntm (zno S n)) (q : ¬ ((nlg (zno S n)).length < mix m ∨ (nbs (zno S n) < mix m ∧ sqTT (nlg (zno S n)) (mix m) ≠ mbf m))) : zIL B (zN S n (nCm (nLg (zno S n) (sqTake (nbs (zno S n)) (mes m) (nlg (zno S n)) (mix m)).1) (max (ncm (zno S n)) (min (mcm m) (sqTake (nbs (zno S n)) (mes m) (nlg (zno S n)) (mix m)).2.1)))) := by
  have a := I.2.2.1 n hn
  obtain ⟨⟨m1, m2, m3⟩, -, -, m4, -⟩ := M
  obtain ⟨k1, k2, k3, k4, k5, k6, k7, k8⟩ := m4 hk
  rw [ht] at k1 k2 k3 k4 k7 k8
  have hT : hel h (ntm (zno S n)) ≠ none := by rw [k1]; exact Option.some_ne_none _
  have q1 : mix m ≤ (nlg (zno S n)).length := Nat.le_of_not_lt (fun z => q (Or.inl z))
  have hag := sqNI.agree I.2.1 a hT
  have hA : sqA (nlg (zno S n)) (hLg h (ntm (zno S n))) (mix m) := by
    rcases Nat.lt_or_ge (nbs (zno S n)) (mix m) with z | z
    · have q2 : sqTT (nlg (zno S n)) (mix m) = mbf m := Classical.byContradiction fun w => q (Or.inr ⟨z, w⟩)
      rw [k3] at q2
      obtain ⟨j, hj⟩ : ∃ j, mix m = j + 1 := ⟨mix m - 1, by omega⟩
      rw [hj] at q1 q2 k2 ⊢
      have g1 := List.getElem?_eq_getElem q1
      have g2 := List.getElem?_eq_getElem k2
      rw [sqTT_some g1, sqTT_some g2] at q2
      exact sqO_match a.1.1 (sqO_Lg I.2.1 hT) g1 g2 q2
    · exact hag.mono (Nat.le_trans z a.2.2.2.1.1)
  obtain ⟨b1, b2⟩ := sqNI.takes (n := n) I.2.1 hT (mes m) (zno S n) (mix m) hr a hT hA k4
  have b := L.2.2.2.1 n hn
  obtain ⟨c1, c2, c3⟩ := sqTake_bd (nbs (zno S n)) (mes m) (nlg (zno S n)) (mix m) LMm.2.2.2.2.2.2.2.2.1 b.2.2.1 b.2.1 (LMm.2.2.1 hk)
  generalize sqTake (nbs (zno S n)) (mes m) (nlg (zno S n)) (mix m) = r at b1 b2 c1 c2 c3
  have hb := b1.2.2.2.1
  have hS2 : sqS h (ntm (zno S n)) r.1 (max (ncm (zno S n)) (min (mcm m) r.2.1)) := by
    rcases Nat.le_total (min (mcm m) r.2.1) (ncm (zno S n)) with z | z
    · rw [Nat.max_eq_left z]; exact hb.2.2.2
    · rw [Nat.max_eq_right z]
      exact (k8.mono (Nat.min_le_left _ _)).mv (b2.mono (Nat.min_le_right _ _)).symm
  have a2 : sqNI h n (nCm (nLg (zno S n) r.1) (max (ncm (zno S n)) (min (mcm m) r.2.1))) := sqNI.com b1 rfl rfl rfl rfl (Nat.le_max_left _ _) (Nat.max_le.mpr ⟨hb.2.1, Nat.le_trans (Nat.min_le_right _ _) b2.1⟩) hS2 (fun z => by
    have z' : nro (zno S n) = 2 := z
    rw [hr] at z'; cases z') (fun z => by
    have z' : nro (zno S n) = 1 := z
    rw [hr] at z'; cases z')
  exact ⟨⟨h, I.node a2⟩, L.node (b.lg hr c1 c2 _ 0).2⟩
/-- one node's row and one statistic change -/
theorem RA.nds (R : RA A S) (hZ : zIL B S) (hn : n < 5) {N' : sqN} (hZ' : zIL B (zN S n N')) {s : Nat} (s1 : 1 ≤ s) (s2 : s ≤ 6) {v : Int32} (e : ∀ k, (k < 116 + 100 * n ∨ 116 + 100 * n + 100 ≤ k) → k ≠ 9 + s → A' k = A k) (es : A' (9 + s) = A (9 + s) + v) (hN : RN (rN A' n) (zg S) N') : RA A' (zS (zN S n N') s v) := by
  have R1 : RA (fun j => if j = 9 + s then A (9 + s) else A' j) (zN S n N') := by
    refine R.nd hZ hn (fun k hk => ?_) ?_
    · by_cases z : k = 9 + s
      · show (if k = 9 + s then A (9 + s) else A' k) = A k
        rw [if_pos z, z]
      · show (if k = 9 + s then A (9 + s) else A' k) = A k
        rw [if_neg z]; exact e k hk z
    · have : rN (fun j => if j = 9 + s then A (9 + s) else A' j) n = rN A' n := by
        funext k
        show (if 116 + 100 * n + k = 9 + s then A (9 + s) else A' (116 + 100 * n + k)) = A' (116 + 100 * n + k)
        rw [if_neg (by omega)]
      rw [this]; exact hN
  have R2 := R1.stat hZ' s1 s2 (v := v)
  have : upd (fun j => if j = 9 + s then A (9 + s) else A' j) (9 + s) ((if 9 + s = 9 + s then A (9 + s) else A' (9 + s)) + v) = A' := by
    funext k
    by_cases z : k = 9 + s
    · rw [z, upd_at, if_pos rfl, es]
    · rw [upd_ne _ _ z, if_neg z]
  rw [← this]
  exact R2
theorem mX7_receiveAppend_ok (R : RZ B (μ 1 0) S) (hB : B < 800000000) (hn : n < 5) (h1 : a1.toInt = (n : Int)) (hG : RM (μ 4 0) (zg S) m) (hs : mse m < 5) (hk : mki m = 2) (hl4 : (mes m).length ≤ 4) (hfl : mfl m = (mes m).length) (hL : LM B (zti S) m) (hZ : ¬ ((nlg (zno S n)).length < mix m ∨ (nbs (zno S n) < mix m ∧ sqTT (nlg (zno S n)) (mix m) ≠ mbf m)) → zIL B (zN S n (nCm (nLg (zno S n) (sqTake (nbs (zno S n)) (mes m) (nlg (zno S n)) (mix m)).1) (max (ncm (zno S n)) (min (mcm m) (sqTake (nbs (zno S n)) (mes m) (nlg (zno S n)) (mix m)).2.1))))) : gOk (mX7_receiveAppend a1 μ) (fun μ' => gF1 μ μ' ∧ RA (μ' 1 0) (zApp S n m)) := by
  have hb := R.bd hn
  have hR := R.1.2.1 n hn
  have h45 := hG.2.2.2.2.2.1
  have h489 := hG.2.2.2.2.2.2.2.2.1 hk
  have hll := (R.2.1.2.2.2.2.1 n hn).2.1
  have hmB := hL.2.1
  unfold mX7_receiveAppend zApp
  refine gOk_let (gOk_bp (mX7_last_ok R.1 R.2.1.2 R.2.2 hn h1) (fun r6 h6 => gOk_lee (fun x7 h7 => ?_)))
  have hx7 : x7 = 0 ↔ mix m ≤ (nlg (zno S n)).length := by
    rw [h7]
    by_cases w : μ 4 0 5 ≤ r6
    · have := Int32.le_iff_toInt_le.mp w
      rw [h45, h6] at this
      rw [if_pos w]
      exact ⟨fun _ => by omega, fun _ => rfl⟩
    · have := Int.not_le.mp (fun y => w (Int32.le_iff_toInt_le.mpr y))
      rw [h45, h6] at this
      rw [if_neg w]
      exact ⟨fun y => absurd y (by decide), fun y => by omega⟩
  have hm1 : 1 ≤ mix m → (μ 4 0 5 - 1).toInt = ((mix m - 1 : Nat) : Int) := fun z => by rw [ti_sub h45 (y := 1) (b := 1) rfl (by omega) (by omega)]; omega
  refine gOk_jq (γ := Unit) (fun _ => (nlg (zno S n)).length < mix m ∨ (nbs (zno S n) < mix m ∧ sqTT (nlg (zno S n)) (mix m) ≠ mbf m)) (fun _ hc => ?_) (fun j11 hj11 => ?_)
  · rw [if_pos hc]
    have hpos : 1 ≤ mix m := by omega
    refine gOk_bp (mX7_last_ok R.1 R.2.1.2 R.2.2 hn h1) (fun r13 h13 => gOk_jq (γ := Int32) (fun x => x.toInt = ((min (nlg (zno S n)).length (mix m - 1) : Nat) : Int)) (fun x14 h14 => gOk_bp (mX7_answer_ok R hn hG hs (fl := 0) h1 h14 rfl) (fun μ17 h17 => gOk_some h17)) (fun j15 hj15 => ?_))
    refine gOk_le (hm1 hpos) h13 (fun w => hj15 _ (by rw [hm1 hpos]; omega)) (fun w => ?_)
    exact gOk_bp (mX7_last_ok R.1 R.2.1.2 R.2.2 hn h1) (fun r20 h20 => hj15 _ (by rw [h20]; omega))
  · have succ : ¬ ((nlg (zno S n)).length < mix m ∨ (nbs (zno S n) < mix m ∧ sqTT (nlg (zno S n)) (mix m) ≠ mbf m)) → gOk (gBd (mX7_take a1 μ) fun r27 μ28 => gLet (α := Int32) (μ 4 0 5 + r27) fun x29 => gLet (α := Int32) (if x29 ≤ (μ28 4 0 9) then x29 else μ28 4 0 9) fun x33 => gBp (mX7_of a1 4 μ28) fun r38 => gJon (fun (μ39 : gM) => gBp (mX7_answer a1 x29 1 μ39) fun μ42 => some μ42) fun j40 => if x33 ≤ r38 then j40 μ28 else gBp (mX7_set a1 4 x33 μ28) fun μ45 => j40 μ45) (fun μ' => gF1 μ μ' ∧ RA (μ' 1 0) (if (nlg (zno S n)).length < mix m ∨ (nbs (zno S n) < mix m ∧ sqTT (nlg (zno S n)) (mix m) ≠ mbf m) then zOk S n m 0 (min (nlg (zno S n)).length (mix m - 1)) else zOk (zS (zN S n (nCm (nLg (zno S n) (sqTake (nbs (zno S n)) (mes m) (nlg (zno S n)) (mix m)).1) (max (ncm (zno S n)) (min (mcm m) (sqTake (nbs (zno S n)) (mes m) (nlg (zno S n)) (mix m)).2.1)))) 5 (Int32.ofNat (sqTake (nbs (zno S n)) (mes m) (nlg (zno S n)) (mix m)).2.2)) n m 1 (sqTake (nbs (zno S n)) (mes m) (nlg (zno S n)) (mix m)).2.1)) := by
      intro hc
      rw [if_neg hc]
      have hZ1 := hZ hc
      obtain ⟨-, -, c3⟩ := sqTake_bd (nbs (zno S n)) (mes m) (nlg (zno S n)) (mix m) hL.2.2.2.2.2.2.2.2.1 (R.2.1.2.2.2.2.1 n hn).2.2.1 hll (hL.2.2.1 hk)
      refine gOk_bd (mX7_take_ok hR hn h1 hG hk hl4 hfl (by omega) (by omega) hb.2.1) (fun r27 μ28 ht => ?_)
      generalize sqTake (nbs (zno S n)) (mes m) (nlg (zno S n)) (mix m) = r at *
      obtain ⟨f1, f2, f3, f4, f5⟩ := ht
      have f2' : r27.toInt + (mix m : Int) = (r.2.1 : Int) := f2
      have e4 : μ28 4 0 = μ 4 0 := f1 4 0 (by omega)
      have h29 : (μ 4 0 5 + r27).toInt = (r.2.1 : Int) := by rw [ti_add h45 (a := mix m) (b := r27.toInt) rfl (by omega) (by omega)]; omega
      refine gOk_let (gOk_lee (fun x33 h33 => ?_))
      have h33' : x33.toInt = ((min (mcm m) r.2.1 : Nat) : Int) := by
        rw [h33, e4]
        by_cases w : (μ 4 0 5 + r27) ≤ (μ 4 0 9)
        · have := Int32.le_iff_toInt_le.mp w
          rw [h29, h489.2.1] at this
          rw [if_pos w, h29]
          omega
        · have := Int.not_le.mp (fun y => w (Int32.le_iff_toInt_le.mpr y))
          rw [h29, h489.2.1] at this
          rw [if_neg w, h489.2.1]
          omega
      have f5' : RN (rN (μ28 1 0) n) (zg S) (nLg (zno S n) r.1) := f5
      have h38 : (rN (μ28 1 0) n 4).toInt = ncm (zno S n) := f5'.1.2.2.2.1
      refine gOk_be (mX7_of_ok μ28 h1 (k := 4) rfl hn (by omega)) ?_
      generalize hcc : max (ncm (zno S n)) (min (mcm m) r.2.1) = c at *
      refine gOk_jq (γ := gM) (fun μ39 => gF1 μ μ39 ∧ RZ B (μ39 1 0) (zS (zN S n (nCm (nLg (zno S n) r.1) c)) 5 (Int32.ofNat r.2.2))) (fun μ39 h39 => ?_) (fun j40 hj40 => ?_)
      · have hG' : RM (μ39 4 0) (zg S) m := by rw [h39.1 4 0 (by omega)]; exact hG
        exact gOk_bp (mX7_answer_ok (S := zS (zN S n (nCm (nLg (zno S n) r.1) c)) 5 (Int32.ofNat r.2.2)) h39.2 hn hG' hs (fl := 1) h1 h29 rfl) (fun μ42 h42 => gOk_some ⟨h39.1.tr h42.1, h42.2⟩)
      · refine gOk_le h33' h38 (fun w => hj40 _ ⟨f1, ?_, hZ1, R.2.2⟩) (fun w => ?_)
        · refine R.1.nds R.2.1 hn hZ1 (s := 5) (by omega) (by omega) (fun k a b => f3 k a b) f4 ?_
          have : nCm (nLg (zno S n) r.1) c = nLg (zno S n) r.1 := by
            have : c = ncm (zno S n) := by omega
            rw [this]
            rfl
          rw [this]; exact f5'
        · refine gOk_be (mX7_set_ok μ28 h1 (k := 4) rfl hn (by omega)) (hj40 _ ⟨f1.tr gF1.w, ?_, hZ1, R.2.2⟩)
          rw [w3_10]
          refine R.1.nds R.2.1 hn hZ1 (s := 5) (by omega) (by omega) (fun k a b => ?_) ?_ ?_
          · rw [upd_ne _ _ (by omega)]; exact f3 k a b
          · rw [upd_ne _ _ (by omega)]; exact f4
          · rw [rN_upd]
            exact f5'.cm (by rw [h33']; omega)
    refine gOk_if (fun z => ?_) (fun z => hj11 () (Or.inl (Nat.lt_of_not_le (fun y => z (hx7.mpr y)))))
    have hle := hx7.mp z
    refine gOk_be (mX7_of_ok μ h1 (k := 7) rfl hn (by omega)) (gOk_jon ?_)
    refine gOk_le h45 hR.1.2.2.2.2.1 (fun w => succ (fun y => by omega)) (fun w => ?_)
    refine gOk_bp (mX7_termAt_ok R.1 R.2.1.2 R.2.2 hn h1 h45 (by omega) hle) (fun r49 h49 => gOk_eq h49 h489.1 (fun y => succ (fun v => ?_)) (fun y => hj11 () (Or.inr ⟨by omega, fun v => y (by omega)⟩)))
    rcases v with v | v
    · omega
    · exact v.2 (by omega)
end SqRef16
