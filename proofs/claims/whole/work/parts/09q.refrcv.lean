/-! The reference: entries dropped, snapshots received. -/
section SqRef17
variable {μ : gM} {S : sqSt} {B n k i : Nat} {a1 a2 a3 a4 a5 : Int32} {N : sqN} {A A' : Nat → Int32} {m : sqMs} {h : sqH}
theorem RN.rb {r r' : Nat → Int32} {g : Nat} (h : RN r g N) {l : List sqE} {b c : Nat} (e0 : ∀ k, k < 28 → k ≠ 4 → ¬ (7 ≤ k ∧ k ≤ 12) → r' k = r k) (e4 : (r' 4).toInt = (c : Int)) (e7 : (r' 7).toInt = (b : Int)) (e8 : (r' 8).toInt = (sqTT l b : Int)) (e9 : r' 9 = sqR (l.take b)) (e10 : (r' 10).toInt = ((sqF g (l.take b)).1 : Int)) (e11 : (r' 11).toInt = ((sqF g (l.take b)).2 : Int)) (e12 : (r' 12).toInt = (l.length : Int) - b) (hl : l.length ≤ b + 24) (ent : ∀ (j : Nat) (f : sqE), l[b + j]? = some f → (r' (28 + 3 * j)).toInt = sqT f ∧ (r' (28 + 3 * j + 1)).toInt = f.2.1 ∧ r' (28 + 3 * j + 2) = f.2.2) : RN r' g (nCm (nBs (nLg N l) b) c) := by
  obtain ⟨h1, h2, h3, h4, h5, h6, h7, h8, h9, h10, h11, h12⟩ := h.1
  refine ⟨⟨?_, ?_, ?_, e4, e7, e8, e9, e10, e11, e12, hl, ent⟩, RN1.cg (N := N) h.2 (fun k a b => e0 k (by omega) (by omega) (by omega))⟩
  · rw [e0 0 (by omega) (by omega) (by omega)]; exact h1
  · rw [e0 2 (by omega) (by omega) (by omega)]; exact h2
  · rw [e0 3 (by omega) (by omega) (by omega)]; exact h3
theorem mX7_dropFirst_ok {sz d : Nat} (h12 : (rN (μ 1 0) n 12).toInt = (sz : Int)) (hsz : sz ≤ 24) (hd : d ≤ sz) (hn : n < 5) (h1 : a1.toInt = (n : Int)) (h2 : a2.toInt = (d : Int)) : gOk (mX7_dropFirst a1 a2 μ) (fun μ' => gF1 μ μ' ∧ (∀ j, (j < 116 + 100 * n ∨ 116 + 100 * n + 100 ≤ j) → μ' 1 0 j = μ 1 0 j) ∧ (∀ k, k < 28 → k ≠ 12 → rN (μ' 1 0) n k = rN (μ 1 0) n k) ∧ (rN (μ' 1 0) n 12).toInt = ((sz - d : Nat) : Int) ∧ ∀ k, k < 3 * (sz - d) → rN (μ' 1 0) n (28 + k) = rN (μ 1 0) n (28 + k + 3 * d)) := by
  unfold mX7_dropFirst
  have x3 : (rN (μ 1 0) n 12 - a2).toInt = ((sz - d : Nat) : Int) := by rw [ti_sub h12 h2 (by omega) (by omega)]; omega
  refine gOk_be (mX7_of_ok μ h1 (k := 12) rfl hn (by omega)) (gOk_let ?_)
  generalize rN (μ 1 0) n 12 - a2 = X3 at *
  refine gOk_jon (gOk_fx2 (fun w (x11 : Int32) (μ12 : gM) => ∃ k, w = 3 * (sz - d) - k ∧ k ≤ 3 * (sz - d) ∧ x11.toInt = (k : Int) ∧ gF1 μ μ12 ∧ (∀ j, (j < 116 + 100 * n ∨ 116 + 100 * n + 100 ≤ j) → μ12 1 0 j = μ 1 0 j) ∧ (∀ j, j < 28 ∨ 28 + k ≤ j → rN (μ12 1 0) n j = rN (μ 1 0) n j) ∧ ∀ j, j < k → rN (μ12 1 0) n (28 + j) = rN (μ 1 0) n (28 + j + 3 * d)) ?_ 1000000 (3 * (sz - d)) _ _ (by omega) ⟨0, rfl, Nat.zero_le _, rfl, gF1.rf, fun _ _ => rfl, fun _ _ => rfl, fun j hj => absurd hj (Nat.not_lt_zero j)⟩)
  intro rec w x11 μ12 hI ih
  obtain ⟨k, hw, k1, k2, k3, k4, k5, k6⟩ := hI
  subst hw
  refine gOk_le (ti_mul (x := 3) (a := 3) rfl x3 (by omega) (by omega)) k2 (fun q => ?_) (fun q => ?_)
  · have hk : k = 3 * (sz - d) := by omega
    refine gOk_be (mX7_set_ok μ12 h1 (k := 12) rfl hn (by omega)) (gOk_some ⟨k3.tr gF1.w, fun j hj => ?_, fun j j1 j2 => ?_, ?_, fun j hj => ?_⟩)
    · rw [w3_10, upd_ne _ _ (by omega)]; exact k4 j hj
    · rw [w3_10, rN_upd, upd_ne _ _ j2]; exact k5 j (by omega)
    · rw [w3_10, rN_upd, upd_at]; exact x3
    · rw [w3_10, rN_upd, upd_ne _ _ (by omega)]; exact k6 j (by omega)
  · have e1 : ((28 + x11) + (3 * a2)).toInt = ((28 + k + 3 * d : Nat) : Int) := by
      rw [ti_add (ti_add (x := 28) (a := 28) rfl k2 (by omega) (by omega)) (ti_mul (x := 3) (a := 3) rfl h2 (by omega) (by omega)) (by omega) (by omega)]; omega
    have e2 : (28 + x11).toInt = ((28 + k : Nat) : Int) := by rw [ti_add (x := 28) (a := 28) rfl k2 (by omega) (by omega)]; omega
    have e3 : (x11 + 1).toInt = ((k + 1 : Nat) : Int) := by rw [ti_add k2 (y := 1) (b := 1) rfl (by omega) (by omega)]; omega
    refine gOk_be (mX7_of_ok μ12 h1 e1 hn (by omega)) (gOk_be (mX7_set_ok μ12 h1 e2 hn (by omega)) (ih _ _ (3 * (sz - d) - (k + 1)) (by omega) ⟨k + 1, rfl, by omega, e3, k3.tr gF1.w, fun j hj => ?_, fun j hj => ?_, fun j hj => ?_⟩))
    · rw [w3_10, upd_ne _ _ (by omega)]; exact k4 j hj
    · rw [w3_10, rN_upd, upd_ne _ _ (by omega)]; exact k5 j (by omega)
    · rw [w3_10, rN_upd]
      by_cases z : j = k
      · rw [z, upd_at]; exact k5 _ (by omega)
      · rw [upd_ne _ _ (by omega)]; exact k6 j (by omega)
theorem zI.ins1 (I : zI h S) (L : LI B S) (hn : n < 5) (M : sqMI h m) (LMm : LM B (zti S) m) (hk : mki m = 4) (hr : nro (zno S n) = 0) (ht : mtm m = ntm (zno S n)) : (mes m).length = mix m ∧ sqTT (mes m) (mix m) = mfl m ∧ ((mix m ≤ (nlg (zno S n)).length ∧ sqTT (nlg (zno S n)) (mix m) = mfl m) → 0 < mix m → (nlg (zno S n)).take (mix m) = mes m) ∧ (ncm (zno S n) < mix m → zIL B (zN S n (nCm (nBs (nLg (zno S n) (if mix m ≤ (nlg (zno S n)).length ∧ sqTT (nlg (zno S n)) (mix m) = mfl m then nlg (zno S n) else mes m)) (mix m)) (mix m)))) := by
  have a := I.2.2.1 n hn
  have b := L.2.2.2.1 n hn
  obtain ⟨⟨m1, m2, m3⟩, -, -, -, -, m4⟩ := M
  obtain ⟨k1, k2, k3, k4, k5⟩ := m4 hk
  rw [ht] at k1 k2 k3 k4 k5
  have hT : hel h (ntm (zno S n)) ≠ none := by rw [k1]; exact Option.some_ne_none _
  have hlen : (mes m).length = mix m := by rw [k5, List.length_take]; omega
  have hA : sqA (mes m) (hLg h (ntm (zno S n))) (mix m) := ⟨by omega, k2, fun j hj => by rw [k5, List.getElem?_take_of_lt hj]⟩
  have hag : (mix m ≤ (nlg (zno S n)).length ∧ sqTT (nlg (zno S n)) (mix m) = mfl m) → 0 < mix m → sqA (nlg (zno S n)) (hLg h (ntm (zno S n))) (mix m) := by
    intro z hp
    obtain ⟨z1, z2⟩ := z
    rw [k4] at z2
    obtain ⟨j, hj⟩ : ∃ j, mix m = j + 1 := ⟨mix m - 1, by omega⟩
    rw [hj] at z1 z2 k2 ⊢
    have g1 := List.getElem?_eq_getElem z1
    have g2 := List.getElem?_eq_getElem k2
    rw [sqTT_some g1, sqTT_some g2] at z2
    exact sqO_match a.1.1 (sqO_Lg I.2.1 hT) g1 g2 z2
  refine ⟨hlen, ?_, fun z hp => ?_, fun q => ?_⟩
  · rw [k4]; exact sqTT_A hA (Nat.le_refl _)
  · rw [k5]; exact (hag z hp).take
  · have a2 : sqNI h n (nCm (nBs (nLg (zno S n) (if mix m ≤ (nlg (zno S n)).length ∧ sqTT (nlg (zno S n)) (mix m) = mfl m then nlg (zno S n) else mes m)) (mix m)) (mix m)) := by
      refine sqNI.inst I.2.1 a hT k2 k3 q ?_ rfl rfl rfl rfl hr
      by_cases z : mix m ≤ (nlg (zno S n)).length ∧ sqTT (nlg (zno S n)) (mix m) = mfl m
      · rw [if_pos z]
        exact Or.inl ⟨hag z (by omega), rfl⟩
      · rw [if_neg z]
        refine Or.inr ⟨fun w => z ⟨w.1, ?_⟩, k5⟩
        rw [k4]; exact sqTT_A w (Nat.le_refl _)
    have hl : LL B (if mix m ≤ (nlg (zno S n)).length ∧ sqTT (nlg (zno S n)) (mix m) = mfl m then nlg (zno S n) else mes m) ∧ (if mix m ≤ (nlg (zno S n)).length ∧ sqTT (nlg (zno S n)) (mix m) = mfl m then nlg (zno S n) else mes m).length ≤ B := by
      by_cases z : mix m ≤ (nlg (zno S n)).length ∧ sqTT (nlg (zno S n)) (mix m) = mfl m
      · rw [if_pos z]; exact ⟨b.2.2.1, b.2.1⟩
      · rw [if_neg z]; exact ⟨LMm.2.2.2.2.2.2.2.2.1, LMm.2.2.2.1⟩
    generalize (if mix m ≤ (nlg (zno S n)).length ∧ sqTT (nlg (zno S n)) (mix m) = mfl m then nlg (zno S n) else mes m) = l at a2 hl
    exact ⟨⟨h, I.node a2⟩, L.node (b.lg hr hl.1 hl.2 _ _).1⟩
theorem mX7_snap_tail (R : RZ B (μ 1 0) S) (hn : n < 5) (h1 : a1.toInt = (n : Int)) (hG : RM (μ 4 0) (zg S) m) (hk : mki m = 4) (hB : mix m < 900000000) (hc : ncm (zno S n) < mix m) (hlen : (mes m).length = mix m) (hT : sqTT (mes m) (mix m) = mfl m) (hsame : (mix m ≤ (nlg (zno S n)).length ∧ sqTT (nlg (zno S n)) (mix m) = mfl m) → (nlg (zno S n)).take (mix m) = mes m) (hZ : zIL B (zN S n (nCm (nBs (nLg (zno S n) (if mix m ≤ (nlg (zno S n)).length ∧ sqTT (nlg (zno S n)) (mix m) = mfl m then nlg (zno S n) else mes m)) (mix m)) (mix m)))) {Q : gM → Prop} {j4 : gM → Option gM} (hj : ∀ μ', gF1 μ μ' → RZ B (μ' 1 0) (zS (zN S n (nCm (nBs (nLg (zno S n) (if mix m ≤ (nlg (zno S n)).length ∧ sqTT (nlg (zno S n)) (mix m) = mfl m then nlg (zno S n) else mes m)) (mix m)) (mix m))) 6 1) → gOk (j4 μ') Q) {x12 : Int32} (hx : x12 = 0 ↔ ¬ (mix m ≤ (nlg (zno S n)).length ∧ sqTT (nlg (zno S n)) (mix m) = mfl m)) : gOk (gJon (fun (x14 : Int32) =>
            gBp (mX7_dropFirst a1 x14 μ) fun μ17 =>
            gBp (mX7_set a1 7 (μ17 4 0 5) μ17) fun μ19 =>
            gBp (mX7_set a1 8 (μ19 4 0 6) μ19) fun μ21 =>
            gBp (mX7_set a1 9 (μ21 4 0 10) μ21) fun μ23 =>
            gBp (mX7_set a1 10 (μ23 4 0 11) μ23) fun μ25 =>
            gBp (mX7_set a1 11 (μ25 4 0 12) μ25) fun μ27 =>
            gBp (mX7_set a1 4 (μ27 4 0 5) μ27) fun μ29 =>
            gBp (mX7_tally 6 1 μ29) fun μ31 =>
            j4 μ31) fun j15 =>
        if x12 = 0 then
          gBp (mX7_of a1 12 μ) fun r34 =>
          j15 r34
        else
          gBp (mX7_of a1 7 μ) fun r36 =>
          j15 ((μ 4 0 5) - r36)) Q := by
  have hb := R.bd hn
  have hR := R.1.2.1 n hn
  have hR' := hR
  obtain ⟨⟨r1, r2, r3, r4, r5, r6, r7, r8, r9, r10, r11, r12⟩, -⟩ := hR'
  obtain ⟨g0, g1, g2, g3, g4, g5, g6, g7, g8, g9⟩ := hG
  obtain ⟨g10, g11, g12⟩ := g9 hk
  have hsz : (rN (μ 1 0) n 12).toInt = (((nlg (zno S n)).length - nbs (zno S n) : Nat) : Int) := by rw [r10]; omega
  refine gOk_jq (γ := Int32) (fun x => ∃ d : Nat, x.toInt = (d : Int) ∧ d ≤ (nlg (zno S n)).length - nbs (zno S n) ∧ (((mix m ≤ (nlg (zno S n)).length ∧ sqTT (nlg (zno S n)) (mix m) = mfl m) ∧ d = mix m - nbs (zno S n)) ∨ (¬ (mix m ≤ (nlg (zno S n)).length ∧ sqTT (nlg (zno S n)) (mix m) = mfl m) ∧ d = (nlg (zno S n)).length - nbs (zno S n)))) (fun x14 hx14 => ?_) (fun j15 hj15 => ?_)
  · obtain ⟨d, d1, d2, d3⟩ := hx14
    refine gOk_bp (mX7_dropFirst_ok hsz (by omega) d2 hn h1 d1) (fun μ17 h17 => ?_)
    obtain ⟨f1, f2, f3, f4, f5⟩ := h17
    have e17 : μ17 4 0 = μ 4 0 := f1 4 0 (by omega)
    have nf : ∀ (X : gM) (k : Nat) (v : Int32), w3 X 1 0 k v 4 0 = X 4 0 := fun X k v => w3_ne (by omega)
    refine gOk_be (mX7_set_ok μ17 h1 (k := 7) rfl hn (by omega)) (gOk_be (mX7_set_ok _ h1 (k := 8) rfl hn (by omega)) (gOk_be (mX7_set_ok _ h1 (k := 9) rfl hn (by omega)) (gOk_be (mX7_set_ok _ h1 (k := 10) rfl hn (by omega)) (gOk_be (mX7_set_ok _ h1 (k := 11) rfl hn (by omega)) (gOk_be (mX7_set_ok _ h1 (k := 4) rfl hn (by omega)) (gOk_be (mX7_tally_ok _ (s := 6) rfl (by omega)) ?_))))))
    simp only [nf, e17]
    refine hj _ (f1.tr (gF1.w.tr (gF1.w.tr (gF1.w.tr (gF1.w.tr (gF1.w.tr (gF1.w.tr gF1.w))))))) ⟨?_, hZ, R.2.2⟩
    simp only [w3_10]
    refine R.1.nds R.2.1 hn hZ (s := 6) (by omega) (by omega) (fun k a b => ?_) ?_ ?_
    · rw [upd_ne _ _ b, upd_ne _ _ (by omega), upd_ne _ _ (by omega), upd_ne _ _ (by omega), upd_ne _ _ (by omega), upd_ne _ _ (by omega), upd_ne _ _ (by omega)]
      exact f2 k a
    · rw [upd_at, upd_ne _ _ (by omega), upd_ne _ _ (by omega), upd_ne _ _ (by omega), upd_ne _ _ (by omega), upd_ne _ _ (by omega), upd_ne _ _ (by omega), f2 (9 + 6) (by omega)]
    · have hrow : ∀ (X : Nat → Int32) (v : Int32), rN (upd X (9 + 6) v) n = rN X n := fun X v => by funext j; exact upd_ne _ _ (by omega)
      rw [hrow, rN_upd, rN_upd, rN_upd, rN_upd, rN_upd, rN_upd]
      have low : ∀ k, k ≠ 4 → k ≠ 7 → k ≠ 8 → k ≠ 9 → k ≠ 10 → k ≠ 11 → upd (upd (upd (upd (upd (upd (rN (μ17 1 0) n) 7 (μ 4 0 5)) 8 (μ 4 0 6)) 9 (μ 4 0 10)) 10 (μ 4 0 11)) 11 (μ 4 0 12)) 4 (μ 4 0 5) k = rN (μ17 1 0) n k := fun k k4 k7 k8 k9 k10 k11 => by
        rw [upd_ne _ _ k4, upd_ne _ _ k11, upd_ne _ _ k10, upd_ne _ _ k9, upd_ne _ _ k8, upd_ne _ _ k7]
      rcases d3 with ⟨c1, c2⟩ | ⟨c1, c2⟩
      · rw [if_pos c1]
        have hs := hsame c1
        refine hR.rb (fun k k1 k2 k3 => ?_) ?_ ?_ ?_ ?_ ?_ ?_ ?_ (by omega) (fun j f hj => ?_)
        · rw [low k k2 (by omega) (by omega) (by omega) (by omega) (by omega)]; exact f3 k k1 (by omega)
        · rw [upd_at]; exact g5
        · rw [upd_ne _ _ (by omega), upd_ne _ _ (by omega), upd_ne _ _ (by omega), upd_ne _ _ (by omega), upd_ne _ _ (by omega), upd_at]; exact g5
        · rw [upd_ne _ _ (by omega), upd_ne _ _ (by omega), upd_ne _ _ (by omega), upd_ne _ _ (by omega), upd_at, c1.2]; exact g6
        · rw [upd_ne _ _ (by omega), upd_ne _ _ (by omega), upd_ne _ _ (by omega), upd_at, hs]; exact g10
        · rw [upd_ne _ _ (by omega), upd_ne _ _ (by omega), upd_at, hs]; exact g11
        · rw [upd_ne _ _ (by omega), upd_at, hs]; exact g12
        · rw [low 12 (by omega) (by omega) (by omega) (by omega) (by omega) (by omega), f4]; omega
        · have hjl := sq_lt hj
          have hold := r12 (d + j) f (by rw [show nbs (zno S n) + (d + j) = mix m + j by omega]; exact hj)
          rw [low (28 + 3 * j) (by omega) (by omega) (by omega) (by omega) (by omega) (by omega), low (28 + 3 * j + 1) (by omega) (by omega) (by omega) (by omega) (by omega) (by omega), low (28 + 3 * j + 2) (by omega) (by omega) (by omega) (by omega) (by omega) (by omega)]
          rw [f5 (3 * j) (by omega), show 28 + 3 * j + 1 = 28 + (3 * j + 1) by omega, f5 (3 * j + 1) (by omega), show 28 + 3 * j + 2 = 28 + (3 * j + 2) by omega, f5 (3 * j + 2) (by omega)]
          rw [show 28 + 3 * j + 3 * d = 28 + 3 * (d + j) by omega, show 28 + (3 * j + 1) + 3 * d = 28 + 3 * (d + j) + 1 by omega, show 28 + (3 * j + 2) + 3 * d = 28 + 3 * (d + j) + 2 by omega]
          exact hold
      · rw [if_neg c1]
        have htk : (mes m).take (mix m) = mes m := by rw [← hlen, List.take_length]
        refine hR.rb (fun k k1 k2 k3 => ?_) ?_ ?_ ?_ ?_ ?_ ?_ ?_ (by omega) (fun j f hj => ?_)
        · rw [low k k2 (by omega) (by omega) (by omega) (by omega) (by omega)]; exact f3 k k1 (by omega)
        · rw [upd_at]; exact g5
        · rw [upd_ne _ _ (by omega), upd_ne _ _ (by omega), upd_ne _ _ (by omega), upd_ne _ _ (by omega), upd_ne _ _ (by omega), upd_at]; exact g5
        · rw [upd_ne _ _ (by omega), upd_ne _ _ (by omega), upd_ne _ _ (by omega), upd_ne _ _ (by omega), upd_at, hT]; exact g6
        · rw [upd_ne _ _ (by omega), upd_ne _ _ (by omega), upd_ne _ _ (by omega), upd_at, htk]; exact g10
        · rw [upd_ne _ _ (by omega), upd_ne _ _ (by omega), upd_at, htk]; exact g11
        · rw [upd_ne _ _ (by omega), upd_at, htk]; exact g12
        · rw [low 12 (by omega) (by omega) (by omega) (by omega) (by omega) (by omega), f4]; omega
        · have hjl := sq_lt hj
          omega
  · refine gOk_if (fun z => ?_) (fun z => ?_)
    · exact gOk_be (mX7_of_ok μ h1 (k := 12) rfl hn (by omega)) (hj15 _ ⟨_, hsz, Nat.le_refl _, Or.inr ⟨hx.mp z, rfl⟩⟩)
    · have hth : mix m ≤ (nlg (zno S n)).length ∧ sqTT (nlg (zno S n)) (mix m) = mfl m := Classical.byContradiction fun w => z (hx.mpr w)
      refine gOk_be (mX7_of_ok μ h1 (k := 7) rfl hn (by omega)) (hj15 _ ⟨mix m - nbs (zno S n), ?_, by omega, Or.inl ⟨hth, rfl⟩⟩)
      rw [ti_sub g5 r5 (by omega) (by omega)]; omega
end SqRef17
