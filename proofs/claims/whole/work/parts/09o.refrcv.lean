/-! The reference: entries that are taken. -/
section SqRef15
variable {μ : gM} {S : sqSt} {B n k i : Nat} {a1 a2 a3 a4 a5 : Int32} {N : sqN} {A A' : Nat → Int32} {m : sqMs}
theorem RN0.entry {g : Nat} (h : RN0 (rN (μ 1 0) n) g N) (hB : (nlg N).length < 1000000000) (hn : n < 5) (h1 : a1.toInt = (n : Int)) {j p : Nat} {e : sqE} (hj : (nlg N)[j]? = some e) (hb : nbs N ≤ j) (h2 : a2.toInt = ((j + 1 : Nat) : Int)) (h3 : a3.toInt = (p : Int)) (hp : p < 3) : gOk (mX7_entryOf a1 a2 a3 μ) (sqP e p) := by
  obtain ⟨r1, r2, r3, r4, r5, r6, r7, r8, r9, r10, r11, r12⟩ := h
  have hlt := sq_lt hj
  unfold mX7_entryOf
  refine gOk_be (mX7_of_ok μ h1 (k := 7) rfl hn (by omega)) ?_
  have e1 := ti_sub (ti_sub h2 r5 (by omega) (by omega)) (y := 1) (b := 1) rfl (by omega) (by omega)
  have e2 := ti_add (x := 28) (a := 28) rfl (ti_mul (x := 3) (a := 3) rfl e1 (by omega) (by omega)) (by omega) (by omega)
  have e3 := ti_add e2 h3 (by omega) (by omega)
  have e4 : ((28 + (3 * ((a2 - rN (μ 1 0) n 7) - 1))) + a3).toInt = ((28 + 3 * (j - nbs N) + p : Nat) : Int) := by rw [e3]; omega
  refine gOk_be (mX7_of_ok μ h1 e4 hn (by omega)) (gOk_some ?_)
  have h := r12 (j - nbs N) e (by rw [show nbs N + (j - nbs N) = j by omega]; exact hj)
  refine ⟨fun q => ?_, fun q => ?_, fun q => ?_⟩
  · subst q; exact h.1
  · subst q; exact h.2.1
  · subst q; exact h.2.2
theorem RN0.term {g : Nat} (h : RN0 (rN (μ 1 0) n) g N) (hB : (nlg N).length < 1000000000) (hn : n < 5) (h1 : a1.toInt = (n : Int)) {ix : Nat} (h2 : a2.toInt = (ix : Int)) (hb : nbs N ≤ ix) (hl : ix ≤ (nlg N).length) : gOk (mX7_termAt a1 a2 μ) (fun r => r.toInt = sqTT (nlg N) ix) := by
  have h' := h
  obtain ⟨r1, r2, r3, r4, r5, r6, r7, r8, r9, r10, r11, r12⟩ := h'
  unfold mX7_termAt
  refine gOk_be (mX7_of_ok μ h1 (k := 7) rfl hn (by omega)) (gOk_eq h2 r5 (fun q => ?_) (fun q => ?_))
  · refine gOk_be (mX7_of_ok μ h1 (k := 8) rfl hn (by omega)) (gOk_some ?_)
    rw [r6, show ix = nbs N by omega]
  · have hj : (nlg N)[ix - 1]? = some ((nlg N)[ix - 1]'(by omega)) := List.getElem?_eq_getElem (by omega)
    refine gOk_bp (h.entry hB hn h1 hj (by omega) (p := 0) (by rw [h2]; omega) rfl (by omega)) (fun r hr => gOk_some ?_)
    rw [hr.1 rfl, ← sqTT_some hj, show ix - 1 + 1 = ix by omega]
theorem RN.add {g : Nat} (hR : RN (rN (μ 1 0) n) g N) (hn : n < 5) (h1 : a1.toInt = (n : Int)) (hb : nbs N ≤ (nlg N).length) (hl : (nlg N).length < nbs N + 24) {e : sqE} (h2 : a2.toInt = sqT e) (h3 : a3.toInt = e.2.1) (h4 : a4 = e.2.2) : gOk (mX7_add a1 a2 a3 a4 μ) (fun μ' => gF1 μ μ' ∧ (∀ k, (k < 116 + 100 * n ∨ 116 + 100 * n + 100 ≤ k) → μ' 1 0 k = μ 1 0 k) ∧ RN (rN (μ' 1 0) n) g (nLg N (nlg N ++ [e]))) := by
  have hR' := hR
  obtain ⟨⟨r1, r2, r3, r4, r5, r6, r7, r8, r9, r10, r11, r12⟩, -⟩ := hR'
  have e28 := ti_add (x := 28) (a := 28) rfl (ti_mul (x := 3) (a := 3) rfl r10 (by omega) (by omega)) (by omega) (by omega)
  have x3 : ((28 : Int32) + 3 * rN (μ 1 0) n 12).toInt = ((28 + 3 * ((nlg N).length - nbs N) : Nat) : Int) := by rw [e28]; omega
  have x31 : ((28 : Int32) + 3 * rN (μ 1 0) n 12 + 1).toInt = ((28 + 3 * ((nlg N).length - nbs N) + 1 : Nat) : Int) := by rw [ti_add x3 (y := 1) (b := 1) rfl (by omega) (by omega)]; omega
  have x32 : ((28 : Int32) + 3 * rN (μ 1 0) n 12 + 2).toInt = ((28 + 3 * ((nlg N).length - nbs N) + 2 : Nat) : Int) := by rw [ti_add x3 (y := 2) (b := 2) rfl (by omega) (by omega)]; omega
  unfold mX7_add
  refine gOk_be (mX7_of_ok μ h1 (k := 12) rfl hn (by omega)) (gOk_let ?_)
  refine gOk_be (mX7_set_ok μ h1 x3 hn (by omega)) (gOk_be (mX7_set_ok _ h1 x31 hn (by omega)) (gOk_be (mX7_set_ok _ h1 x32 hn (by omega)) ?_))
  refine gOk_be (mX7_of_ok _ h1 (k := 12) rfl hn (by omega)) (gOk_be (mX7_set_ok _ h1 (k := 12) rfl hn (by omega)) (gOk_some ⟨gF1.w.tr (gF1.w.tr (gF1.w.tr gF1.w)), ?_, ?_⟩))
  · intro k hk
    simp only [w3_10]
    rw [upd_ne _ _ (by omega), upd_ne _ _ (by omega), upd_ne _ _ (by omega), upd_ne _ _ (by omega)]
  · simp only [w3_10]
    have p12 : ∀ (X : Nat → Int32) (j : Nat) (v : Int32), j ≠ 12 → rN (upd X (116 + 100 * n + j) v) n 12 = rN X n 12 := fun X j v hj => by rw [rN_upd, upd_ne _ _ (Ne.symm hj)]
    rw [p12 _ _ _ (by omega), p12 _ _ _ (by omega), p12 _ _ _ (by omega)]
    rw [rN_upd, rN_upd, rN_upd, rN_upd]
    exact RN.ap hR hb hl h2 h3 h4 (by rw [ti_add r10 (y := 1) (b := 1) rfl (by omega) (by omega)]; omega) rfl
theorem RN.cut {r : Nat → Int32} {g : Nat} (h : RN r g N) {idx : Nat} (hb : nbs N ≤ idx) (hl : idx ≤ (nlg N).length) {x : Int32} (hx : x.toInt = (idx : Int) - nbs N) : RN (upd r 12 x) g (nLg N ((nlg N).take idx)) := by
  obtain ⟨h1, h2, h3, h4, h5, h6, h7, h8, h9, h10, h11, h12⟩ := h.1
  have ht : ((nlg N).take idx).take (nbs N) = (nlg N).take (nbs N) := by rw [List.take_take, Nat.min_eq_left hb]
  have hlen : ((nlg N).take idx).length = idx := by rw [List.length_take]; omega
  have hA : sqA ((nlg N).take idx) (nlg N) idx := ⟨by omega, hl, fun j hj => List.getElem?_take_of_lt hj⟩
  have hTT : sqTT ((nlg N).take idx) (nbs N) = sqTT (nlg N) (nbs N) := sqTT_A hA hb
  refine ⟨⟨?_, ?_, ?_, ?_, ?_, ?_, ?_, ?_, ?_, ?_, ?_, fun j f hj => ?_⟩, RN1.cg (N := N) h.2 (fun k a b => upd_ne _ _ (by omega))⟩
  · rw [upd_ne _ _ (by omega)]; exact h1
  · rw [upd_ne _ _ (by omega)]; exact h2
  · rw [upd_ne _ _ (by omega)]; exact h3
  · rw [upd_ne _ _ (by omega)]; exact h4
  · rw [upd_ne _ _ (by omega)]; exact h5
  · rw [upd_ne _ _ (by omega)]; show _ = ((sqTT ((nlg N).take idx) (nbs N) : Nat) : Int); rw [hTT]; exact h6
  · rw [upd_ne _ _ (by omega)]; show _ = sqR (((nlg N).take idx).take (nbs N)); rw [ht]; exact h7
  · rw [upd_ne _ _ (by omega)]; show _ = ((sqF g (((nlg N).take idx).take (nbs N))).1 : Int); rw [ht]; exact h8
  · rw [upd_ne _ _ (by omega)]; show _ = ((sqF g (((nlg N).take idx).take (nbs N))).2 : Int); rw [ht]; exact h9
  · rw [upd_at, hx]; show _ = (((nlg N).take idx).length : Int) - nbs N; rw [hlen]
  · show ((nlg N).take idx).length ≤ nbs N + 24; omega
  · have hj' : ((nlg N).take idx)[nbs N + j]? = some f := hj
    have hjl := sq_lt hj'
    rw [hlen] at hjl
    rw [upd_ne _ _ (by omega), upd_ne _ _ (by omega), upd_ne _ _ (by omega)]
    exact h12 j f (hA.get hjl hj')
theorem sqTake_cons (bs : Nat) (e : sqE) (es lg : List sqE) (idx : Nat) : sqTake bs (e :: es) lg idx = if idx + 1 ≤ bs then sqTake bs es lg (idx + 1) else if idx < lg.length then (if sqTT lg (idx + 1) = sqT e then sqTake bs es lg (idx + 1) else ((sqTake bs es (lg.take idx ++ [e]) (idx + 1)).1, (sqTake bs es (lg.take idx ++ [e]) (idx + 1)).2.1, (sqTake bs es (lg.take idx ++ [e]) (idx + 1)).2.2 + (lg.length - idx))) else if lg.length < bs + 24 then sqTake bs es (lg ++ [e]) (idx + 1) else (lg, idx, 0) := by
  rw [sqTake]
/-- the state of the loop: k entries are taken, the log is lg, rem were removed -/
def TkI (μ μ4 : gM) (g n : Nat) (N : sqN) (m : sqMs) (k : Nat) (lg : List sqE) (rem : Nat) : Prop :=
  gF1 μ μ4 ∧ (∀ j, (j < 116 + 100 * n ∨ 116 + 100 * n + 100 ≤ j) → j ≠ 14 → μ4 1 0 j = μ 1 0 j) ∧ μ4 1 0 14 = μ 1 0 14 + Int32.ofNat rem ∧ RN (rN (μ4 1 0) n) g (nLg N lg) ∧ nbs N ≤ lg.length ∧ lg.length ≤ nbs N + 24
def TkE (N : sqN) (m : sqMs) (k : Nat) (lg : List sqE) (rem : Nat) : Prop :=
  (sqTake (nbs N) (mes m) (nlg N) (mix m)).1 = (sqTake (nbs N) ((mes m).drop k) lg (mix m + k)).1 ∧ (sqTake (nbs N) (mes m) (nlg N) (mix m)).2.1 = (sqTake (nbs N) ((mes m).drop k) lg (mix m + k)).2.1 ∧ (sqTake (nbs N) (mes m) (nlg N) (mix m)).2.2 = rem + (sqTake (nbs N) ((mes m).drop k) lg (mix m + k)).2.2
theorem mX7_take_ok {g : Nat} (hR : RN (rN (μ 1 0) n) g N) (hn : n < 5) (h1 : a1.toInt = (n : Int)) (hG : RM (μ 4 0) g m) (hk : mki m = 2) (hl4 : (mes m).length ≤ 4) (hfl : mfl m = (mes m).length) (hbs : nbs N < 900000000) (hix : mix m < 900000000) (hb : nbs N ≤ (nlg N).length) : gOk (mX7_take a1 μ) (fun q => gF1 μ q.2 ∧ q.1.toInt + mix m = (sqTake (nbs N) (mes m) (nlg N) (mix m)).2.1 ∧ (∀ j, (j < 116 + 100 * n ∨ 116 + 100 * n + 100 ≤ j) → j ≠ 14 → q.2 1 0 j = μ 1 0 j) ∧ q.2 1 0 14 = μ 1 0 14 + Int32.ofNat (sqTake (nbs N) (mes m) (nlg N) (mix m)).2.2 ∧ RN (rN (q.2 1 0) n) g (nLg N (sqTake (nbs N) (mes m) (nlg N) (mix m)).1)) := by
  obtain ⟨m0, m1, m2, m3, m4, m5, m6, m7, m8, m9⟩ := hG
  obtain ⟨m10, m11, m12⟩ := m8 hk
  have fin : ∀ (k : Nat) (x3 : Int32) (lg : List sqE) (rem : Nat) (μ4 : gM), x3.toInt = (k : Int) → TkI μ μ4 g n N m k lg rem → TkE N m k lg rem → (sqTake (nbs N) ((mes m).drop k) lg (mix m + k)) = (lg, mix m + k, 0) → gOk (some (x3, μ4)) (fun q => gF1 μ q.2 ∧ q.1.toInt + mix m = (sqTake (nbs N) (mes m) (nlg N) (mix m)).2.1 ∧ (∀ j, (j < 116 + 100 * n ∨ 116 + 100 * n + 100 ≤ j) → j ≠ 14 → q.2 1 0 j = μ 1 0 j) ∧ q.2 1 0 14 = μ 1 0 14 + Int32.ofNat (sqTake (nbs N) (mes m) (nlg N) (mix m)).2.2 ∧ RN (rN (q.2 1 0) n) g (nLg N (sqTake (nbs N) (mes m) (nlg N) (mix m)).1)) := by
    intro k x3 lg rem μ4 hx hI hE hs
    obtain ⟨i1, i2, i3, i4, i5⟩ := hI
    obtain ⟨e1, e2, e3⟩ := hE
    rw [hs] at e1 e2 e3
    rw [e1, e2, e3]
    exact gOk_some ⟨i1, by show x3.toInt + (mix m : Int) = ((mix m + k : Nat) : Int); rw [hx]; omega, i2, i3, i4⟩
  unfold mX7_take
  refine gOk_jon (gOk_fx2 (fun w (x3 : Int32) (μ4 : gM) => ∃ k lg rem, w = (mes m).length - k ∧ k ≤ (mes m).length ∧ x3.toInt = (k : Int) ∧ TkI μ μ4 g n N m k lg rem ∧ TkE N m k lg rem) ?_ 1000000 (mes m).length _ _ (by omega) ⟨0, nlg N, 0, rfl, Nat.zero_le _, rfl, ⟨gF1.rf, fun _ _ _ => rfl, by rw [show Int32.ofNat 0 = 0 from rfl, Int32.add_zero], hR, hb, hR.1.2.2.2.2.2.2.2.2.2.2.1⟩, rfl, rfl, by rw [Nat.zero_add]; rfl⟩)
  intro rec w x3 μ4 hI ih
  obtain ⟨k, lg, rem, hw, k1, k2, hT, hE⟩ := hI
  subst hw
  have hT' := hT
  obtain ⟨t1, t2, t3, t4, t5, t6⟩ := hT'
  have e4 : μ4 4 0 = μ 4 0 := t1 4 0 (by omega)
  rw [e4]
  refine gOk_le m6 k2 (fun q => ?_) (fun q => ?_)
  · have hke : k = (mes m).length := by omega
    have hd : (mes m).drop k = [] := by rw [hke, List.drop_length]
    have h6 : (μ4 4 0 6).toInt = (k : Int) := by rw [e4, m6]; omega
    exact fin k _ lg rem μ4 h6 hT hE (by rw [hd]; rfl)
  · have hk' : k < (mes m).length := by omega
    have he := List.getElem?_eq_getElem hk'
    have hd : (mes m).drop k = (mes m)[k] :: (mes m).drop (k + 1) := List.drop_eq_getElem_cons hk'
    generalize hee : (mes m)[k] = e at *
    obtain ⟨p1, p2, p3⟩ := m12 k e he
    have x7 : (((μ 4 0 5) + 1) + x3).toInt = ((mix m + k + 1 : Nat) : Int) := by
      rw [ti_add (ti_add m5 (y := 1) (b := 1) rfl (by omega) (by omega)) k2 (by omega) (by omega)]; omega
    have c13 : (13 + (3 * x3)).toInt = ((13 + 3 * k : Nat) : Int) := by rw [ti_add (x := 13) (a := 13) rfl (ti_mul (x := 3) (a := 3) rfl k2 (by omega) (by omega)) (by omega) (by omega)]; omega
    have c14 : ((13 + (3 * x3)) + 1).toInt = ((13 + 3 * k + 1 : Nat) : Int) := by rw [ti_add c13 (y := 1) (b := 1) rfl (by omega) (by omega)]; omega
    have c15 : ((13 + (3 * x3)) + 2).toInt = ((13 + 3 * k + 2 : Nat) : Int) := by rw [ti_add c13 (y := 2) (b := 2) rfl (by omega) (by omega)]; omega
    have hx1 : (x3 + 1).toInt = ((k + 1 : Nat) : Int) := by rw [ti_add k2 (y := 1) (b := 1) rfl (by omega) (by omega)]; omega
    generalize hX7 : ((μ 4 0 5) + 1) + x3 = X7 at *
    have hTE := hE
    obtain ⟨s1, s2, s3⟩ := hTE
    have hcons := sqTake_cons (nbs N) e ((mes m).drop (k + 1)) lg (mix m + k)
    rw [← hd] at hcons
    have hidx : mix m + k + 1 = mix m + (k + 1) := by omega
    refine gOk_let (gOk_chk (ti_inb c13 (by omega)) (gOk_let ?_))
    rw [ti_cl c13]
    refine gOk_be (mX7_of_ok μ4 h1 (k := 7) rfl hn (by omega)) ?_
    have r7 : (rN (μ4 1 0) n 7).toInt = nbs N := t4.1.2.2.2.2.1
    refine gOk_le x7 r7 (fun q2 => ?_) (fun q2 => ?_)
    · rw [if_pos (by omega), hidx] at hcons
      exact ih _ _ ((mes m).length - (k + 1)) (by omega) ⟨k + 1, lg, rem, rfl, by omega, hx1, hT, by unfold TkE; rw [← hcons]; exact ⟨s1, s2, s3⟩⟩
    · rw [if_neg (by omega)] at hcons
      have hlB : (nlg (nLg N lg)).length < 1000000000 := by show lg.length < _; omega
      refine gOk_bp (t4.1.lastx hlB hn h1) (fun r20 h20 => ?_)
      have h20' : r20.toInt = (lg.length : Int) := h20
      refine gOk_jp (γ := gM) (fun μ21 => ∃ lg1 rem1, TkI μ μ21 g n N m k lg1 rem1 ∧ ((mix m + k < lg1.length ∧ lg1 = lg ∧ rem1 = rem ∧ sqTT lg (mix m + k + 1) = sqT e) ∨ (lg1.length ≤ mix m + k ∧ lg1 = lg ∧ rem1 = rem ∧ lg.length ≤ mix m + k) ∨ (lg1 = lg.take (mix m + k) ∧ rem1 = rem + (lg.length - (mix m + k)) ∧ mix m + k < lg.length ∧ sqTT lg (mix m + k + 1) ≠ sqT e))) (fun q => gF1 μ q.2 ∧ q.1.toInt + mix m = (sqTake (nbs N) (mes m) (nlg N) (mix m)).2.1 ∧ (∀ j, (j < 116 + 100 * n ∨ 116 + 100 * n + 100 ≤ j) → j ≠ 14 → q.2 1 0 j = μ 1 0 j) ∧ q.2 1 0 14 = μ 1 0 14 + Int32.ofNat (sqTake (nbs N) (mes m) (nlg N) (mix m)).2.2 ∧ RN (rN (q.2 1 0) n) g (nLg N (sqTake (nbs N) (mes m) (nlg N) (mix m)).1)) (fun μ21 h21 => ?_) (fun j22 hj22 => ?_)
      · obtain ⟨lg1, rem1, hT1, hc⟩ := h21
        have hT1' := hT1
        obtain ⟨v1, v2, v3, v4, v5, v6⟩ := hT1'
        have e41 : μ21 4 0 = μ 4 0 := v1 4 0 (by omega)
        refine gOk_bp (v4.1.lastx (by show lg1.length < _; omega) hn h1) (fun r24 h24 => ?_)
        have h24' : r24.toInt = (lg1.length : Int) := h24
        refine gOk_le x7 h24' (fun q3 => ?_) (fun q3 => ?_)
        · rcases hc with ⟨c1, rfl, rfl, c4⟩ | ⟨c1, c2, c3, c4⟩ | ⟨c1, c2, c3, c4⟩
          · rw [if_pos c1, if_pos c4, hidx] at hcons
            exact ih _ _ ((mes m).length - (k + 1)) (by omega) ⟨k + 1, _, _, rfl, by omega, hx1, hT1, by unfold TkE; rw [← hcons]; exact ⟨s1, s2, s3⟩⟩
          · omega
          · have : lg1.length = mix m + k := by rw [c1, List.length_take]; omega
            omega
        · have r12 : (rN (μ21 1 0) n 12).toInt = (lg1.length : Int) - nbs N := v4.1.2.2.2.2.2.2.2.2.2.1
          refine gOk_be (mX7_of_ok μ21 h1 (k := 12) rfl hn (by omega)) (gOk_eq r12 (y := 24) (b := 24) rfl (fun q4 => ?_) (fun q4 => ?_))
          · rcases hc with ⟨c1, c2, c3, c4⟩ | ⟨c1, rfl, rfl, c4⟩ | ⟨c1, c2, c3, c4⟩
            · omega
            · rw [if_neg (by omega), if_neg (by omega)] at hcons
              exact fin k _ _ _ μ21 k2 hT1 ⟨s1, s2, s3⟩ hcons
            · have : lg1.length = mix m + k := by rw [c1, List.length_take]; omega
              omega
          · rw [e41]
            refine gOk_chk (ti_inb c14 (by omega)) (gOk_chk (ti_inb c15 (by omega)) ?_)
            rw [ti_cl c14, ti_cl c15]
            refine gOk_bp (RN.add (N := nLg N lg1) v4 hn h1 v5 (by show lg1.length < nbs N + 24; omega) p1 p2 p3) (fun μ32 h32 => ?_)
            obtain ⟨y1, y2, y3⟩ := h32
            have hT2 : TkI μ μ32 g n N m (k + 1) (lg1 ++ [e]) rem1 := by
              refine ⟨v1.tr y1, fun j a b => (y2 j a).trans (v2 j a b), ?_, y3, ?_, ?_⟩
              · rw [y2 14 (by omega)]; exact v3
              · rw [List.length_append]; omega
              · rw [List.length_append]; have : [e].length = 1 := rfl; omega
            refine ih _ _ ((mes m).length - (k + 1)) (by omega) ⟨k + 1, lg1 ++ [e], rem1, rfl, by omega, hx1, hT2, ?_⟩
            rcases hc with ⟨c1, c2, c3, c4⟩ | ⟨c1, rfl, rfl, c4⟩ | ⟨c1, c2, c3, c4⟩
            · omega
            · rw [if_neg (by omega), if_pos (by omega), hidx] at hcons
              rw [hcons] at s1 s2 s3
              exact ⟨s1, s2, s3⟩
            · rw [if_pos c3, if_neg c4, hidx, ← c1] at hcons
              rw [hcons] at s1 s2 s3
              refine ⟨s1, s2, s3.trans ?_⟩
              rw [c2]
              show rem + ((sqTake (nbs N) ((mes m).drop (k + 1)) (lg1 ++ [e]) (mix m + (k + 1))).2.2 + (lg.length - (mix m + k))) = _
              omega
      · refine gOk_lt h20' x7 (fun q3 => hj22 _ ⟨lg, rem, hT, Or.inr (Or.inl ⟨by omega, rfl, rfl, by omega⟩)⟩) (fun q3 => ?_)
        refine gOk_bp (t4.1.term hlB hn h1 x7 (by show nbs N ≤ _; omega) (by show _ ≤ lg.length; omega)) (fun r35 h35 => ?_)
        have h35' : r35.toInt = (sqTT lg (mix m + k + 1) : Int) := h35
        refine gOk_eq h35' p1 (fun q4 => hj22 _ ⟨lg, rem, hT, Or.inl ⟨by omega, rfl, rfl, by omega⟩⟩) (fun q4 => ?_)
        refine gOk_bp (t4.1.lastx hlB hn h1) (fun r38 h38 => ?_)
        have h38' : r38.toInt = (lg.length : Int) := h38
        have hd2 : ((r38 - X7) + 1).toInt = ((lg.length - (mix m + k) : Nat) : Int) := by
          rw [ti_add (ti_sub h38' x7 (by omega) (by omega)) (y := 1) (b := 1) rfl (by omega) (by omega)]; omega
        refine gOk_be (mX7_tally_ok μ4 (s := 5) rfl (by omega)) (gOk_be (mX7_of_ok _ h1 (k := 7) rfl hn (by omega)) ?_)
        have e7 : rN (w3 μ4 1 0 (9 + 5) (μ4 1 0 (9 + 5) + ((r38 - X7) + 1)) 1 0) n 7 = rN (μ4 1 0) n 7 := by
          rw [w3_10]; exact upd_ne _ _ (by omega)
        rw [e7]
        have hsz : ((X7 - rN (μ4 1 0) n 7) - 1).toInt = ((mix m + k : Nat) : Int) - nbs N := by
          rw [ti_sub (ti_sub x7 r7 (by omega) (by omega)) (y := 1) (b := 1) rfl (by omega) (by omega)]; omega
        refine gOk_be (mX7_set_ok _ h1 (k := 12) rfl hn (by omega)) (hj22 _ ⟨lg.take (mix m + k), rem + (lg.length - (mix m + k)), ?_, Or.inr (Or.inr ⟨rfl, rfl, by omega, by omega⟩)⟩)
        refine ⟨t1.tr (gF1.w.tr gF1.w), fun j a b => ?_, ?_, ?_, ?_, ?_⟩
        · simp only [w3_10]
          rw [upd_ne _ _ (by omega), upd_ne _ _ (by omega)]; exact t2 j a b
        · simp only [w3_10]
          rw [upd_ne _ _ (by omega), upd_at, t3, ti_of hd2, Int32.ofNat_add, Int32.add_assoc]
        · simp only [w3_10]
          rw [rN_upd]
          have hrow : rN (upd (μ4 1 0) (9 + 5) (μ4 1 0 (9 + 5) + ((r38 - X7) + 1))) n = rN (μ4 1 0) n := by
            funext j; exact upd_ne _ _ (by omega)
          rw [hrow]
          exact RN.cut (N := nLg N lg) t4 (by show nbs N ≤ _; omega) (by show _ ≤ lg.length; omega) hsz
        · rw [List.length_take]; omega
        · rw [List.length_take]; omega
end SqRef15
