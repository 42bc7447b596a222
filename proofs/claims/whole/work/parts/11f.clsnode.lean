/-! The class: a node in its cells; its methods. -/
/-- a node: k the replica's number, n its own -/
def BN0 (μ : gM) (k n g : Nat) (N : sqN) : Prop :=
  (μ 11 k 0).toInt = (n : Int) ∧ (μ 11 k 5).toInt = (if nup N then 1 else 0) ∧ (μ 11 k 7).toInt = (ntm N : Int) ∧ (μ 11 k 8).toInt = zVo (nvo N) ∧ (μ 11 k 9).toInt = (ncm N : Int) ∧ CL μ k g (nlg N) (nbs N) ∧ CF μ k g (nlg N) (nbs N)
def BN1 (μ : gM) (k : Nat) (N : sqN) : Prop :=
  (μ 11 k 6).toInt = (nro N : Int) ∧ μ 11 k 10 = nti N ∧ (nro N = 1 → (μ 11 k 11).toInt = (sqMk (nvs N) : Int)) ∧ (nro N = 2 → ∀ u, u < 5 → (μ 13 k u).toInt = (nnx N u : Int) ∧ (μ 14 k u).toInt = (nmt N u : Int) ∧ (μ 15 k u).toInt = nec N u)
def BN (μ : gM) (k n g : Nat) (N : sqN) : Prop := BN0 μ k n g N ∧ BN1 μ k N
/-- the cells of a node -/
def bnP (k : Nat) : Nat → Nat → Nat → Prop := fun f i j => i = k ∧ (f = 11 ∧ 5 ≤ j ∨ f = 12 ∧ 3 ≤ j ∨ 13 ≤ f ∧ f ≤ 18)
theorem clP_bn {k : Nat} : ∀ f i j, clP k f i j → bnP k f i j := fun _ _ _ h => ⟨h.1, by have := h.2; omega⟩
/-- the cells of a leader's setting up -/
def ldP (k : Nat) : Nat → Nat → Nat → Prop := fun f i j => i = k ∧ (f = 11 ∧ (j = 6 ∨ j = 10) ∨ 13 ≤ f ∧ f ≤ 15)
theorem ldP_bn {k : Nat} : ∀ f i j, ldP k f i j → bnP k f i j := fun _ _ _ h => ⟨h.1, by have := h.2; omega⟩
theorem i32_onek : ∀ v, v < 5 → (1 : Int32) <<< (Int32.ofNat v &&& 31) = Int32.ofNat (sqMk (fun u => u == v)) := by
  intro v hv
  match v, hv with
  | 0, _ => decide +kernel
  | 1, _ => decide +kernel
  | 2, _ => decide +kernel
  | 3, _ => decide +kernel
  | 4, _ => decide +kernel
section SqCln
variable {μ μ' μ1 : gM} {n g b k i nc B t t1 s : Nat} {l : List sqE} {a1 a2 a3 : Int32} {e : sqE} {m : sqMs} {N N' : sqN}
theorem BN0.cg (h : BN0 μ k n g N) (F : ∀ f j, (f = 11 ∧ j ≠ 6 ∧ j ≠ 10 ∧ j ≠ 11 ∨ f = 12 ∨ 16 ≤ f ∧ f ≤ 18) → μ' f k j = μ f k j) (e1 : nup N' = nup N := by rfl) (e2 : ntm N' = ntm N := by rfl) (e3 : nvo N' = nvo N := by rfl) (e4 : ncm N' = ncm N := by rfl) (e5 : nlg N' = nlg N := by rfl) (e6 : nbs N' = nbs N := by rfl) : BN0 μ' k n g N' := by
  obtain ⟨h0, h5, h7, h8, h9, hl, hf⟩ := h
  unfold BN0
  rw [e1, e2, e3, e4, e5, e6, F 11 0 (by omega), F 11 5 (by omega), F 11 7 (by omega), F 11 8 (by omega), F 11 9 (by omega)]
  refine ⟨h0, h5, h7, h8, h9, hl.cg (fun j _ _ => F 12 j (by omega)) (fun f j _ _ _ => F f j (by omega)), ?_⟩
  unfold CF
  rw [F 12 9 (by omega), F 12 10 (by omega), F 12 11 (by omega)]
  exact hf
/-- the mask of those whose number reaches a bound, and of the node itself -/
theorem clsMask {f : Nat} {F : Nat → Int} {ix : Int} (hn : n < 5) (h0 : (μ 11 k 0).toInt = (n : Int)) (hF : ∀ u, u < 5 → (μ f k u).toInt = F u) (h1 : a1.toInt = ix) :
    gOk (gLet (α := Int32) (1 <<< ((μ 11 k 0) &&& 31)) fun x1 =>
      gJon (fun (x5 : Int32) => some x5) fun j6 =>
      gFx2 (fun rec9 (x7 : Int32) (x8 : Int32) =>
        if 5 ≤ x8 then
          j6 x7
        else
          gChk (inb x8 5) <|
          if (μ f k (x8.toNatClampNeg)) < a1 then
            rec9 x7 (x8 + 1)
          else
            gLet (α := Int32) (x7 ||| (1 <<< (x8 &&& 31))) fun x13 =>
            rec9 x13 (x8 + 1)) 1000000 x1 0) (fun r => r.toInt = (sqMk (fun u => u == n || decide (ix ≤ F u)) : Int)) := by
  refine gOk_let (gOk_jon ?_)
  refine gOk_fx2 (fun v (x7 : Int32) (x8 : Int32) => ∃ j, v = 5 - j ∧ j ≤ 5 ∧ x8.toInt = (j : Int) ∧ x7 = Int32.ofNat (sqMk (fun u => u == n || (decide (u < j) && decide (ix ≤ F u))))) ?_ 1000000 5 _ _ (by omega) ⟨0, rfl, Nat.zero_le _, rfl, ?_⟩
  · intro rec v x7 x8 hI ih
    obtain ⟨j, hv, j1, j2, j3⟩ := hI
    subst hv
    refine gOk_le (x := 5) (a := 5) rfl j2 (fun q => gOk_some ?_) (fun q => ?_)
    · have hj : j = 5 := by omega
      subst hj
      rw [j3, sqMk_i32, sqMk_ext (W := fun u => u == n || (decide (u < 5) && decide (ix ≤ F u))) (V := fun u => u == n || decide (ix ≤ F u)) (fun v hv => by
        show (v == n || (decide (v < 5) && decide (ix ≤ F v))) = _
        rw [decide_eq_true hv, Bool.true_and])]
    · have hj5 : j < 5 := by omega
      have ej : (x8 + 1).toInt = ((j + 1 : Nat) : Int) := by rw [ti_add j2 (y := 1) (b := 1) rfl (by omega) (by omega)]; omega
      have p8 := ti_inb (n := 5) j2 (by omega)
      have lt1 : ∀ v, v ≠ j → decide (v < j + 1) = decide (v < j) := fun v hv => by
        by_cases z : v < j
        · rw [decide_eq_true z, decide_eq_true (by omega)]
        · rw [decide_eq_false z, decide_eq_false (by omega)]
      refine gOk_chk p8 ?_
      rw [ti_of j2]
      have j2' : (Int32.ofNat j).toInt = (j : Int) := ti_nat (by omega)
      simp only [ti_cl j2']
      rw [ti_of j2] at ej
      refine gOk_lt (hF j hj5) h1 (fun w => ih _ _ (5 - (j + 1)) (by omega) ⟨j + 1, rfl, by omega, ej, ?_⟩) (fun w => gOk_let (ih _ _ (5 - (j + 1)) (by omega) ⟨j + 1, rfl, by omega, ej, ?_⟩))
      · rw [j3]
        refine congrArg Int32.ofNat (sqMk_ext (fun v _ => ?_))
        show (v == n || (decide (v < j) && decide (ix ≤ F v))) = (v == n || (decide (v < j + 1) && decide (ix ≤ F v)))
        by_cases hv : v = j
        · subst hv
          rw [decide_eq_false (p := ix ≤ F v) (by omega), Bool.and_false, Bool.and_false]
        · rw [lt1 v hv]
      · rw [j3, sqMk_on _ j hj5]
        refine congrArg Int32.ofNat (sqMk_ext (fun v _ => ?_))
        show (if v = j then true else (v == n || (decide (v < j) && decide (ix ≤ F v)))) = (v == n || (decide (v < j + 1) && decide (ix ≤ F v)))
        by_cases hv : v = j
        · subst hv
          rw [if_pos rfl, decide_eq_true (p := ix ≤ F v) (by omega), decide_eq_true (p := v < v + 1) (by omega), Bool.and_self, Bool.or_true]
        · rw [if_neg hv, lt1 v hv]
  · rw [ti_of h0, i32_onek n hn]
    refine congrArg Int32.ofNat (sqMk_ext (fun v _ => ?_))
    show (v == n) = (v == n || (decide (v < 0) && decide (ix ≤ F v)))
    rw [decide_eq_false (p := v < 0) (by omega), Bool.false_and, Bool.or_false]
theorem mX4_holders_ok (h : BN μ k n g N) (hn : n < 5) (hr : nro N = 2) {ix : Nat} (h1 : a1.toInt = (ix : Int)) : gOk (mX4_holders nc k a1 μ) (fun r => r.toInt = (sqMk (zHold N n ix) : Int)) := by
  unfold mX4_holders
  refine gOk_imp (clsMask (f := 14) (F := fun u => (nmt N u : Int)) hn h.1.1 (fun u hu => (h.2.2.2.2 hr u hu).2.1) h1) (fun r hr => ?_)
  rw [hr]
  refine congrArg (fun x : Nat => (x : Int)) (sqMk_ext (fun v _ => ?_))
  show (v == n || decide ((ix : Int) ≤ (nmt N v : Int))) = (v == n || decide (ix ≤ nmt N v))
  by_cases z : ix ≤ nmt N v
  · rw [decide_eq_true z, decide_eq_true (p := (ix : Int) ≤ (nmt N v : Int)) (by omega)]
  · rw [decide_eq_false z, decide_eq_false (p := (ix : Int) ≤ (nmt N v : Int)) (by omega)]
theorem mX4_heardSince_ok (h : BN μ k n g N) (hn : n < 5) (hr : nro N = 2) {ix : Int} (h1 : a1.toInt = ix) : gOk (mX4_heardSince nc k a1 μ) (fun r => r.toInt = (sqMk (fun u => u == n || decide (ix ≤ nec N u)) : Int)) := by
  unfold mX4_heardSince
  exact clsMask (f := 15) (F := fun u => nec N u) hn h.1.1 (fun u hu => (h.2.2.2.2 hr u hu).2.2) h1
theorem mX4_isMember_ok (h : BN0 μ k n g N) (hG : sqG (sqF g (nlg N))) (hn : n < 5) : gOk (mX4_isMember nc k μ) (fun r => r = if ((sqF g (nlg N)).1.testBit n || (sqF g (nlg N)).2.testBit n) then 1 else 0) := by
  unfold mX4_isMember
  refine gOk_bp (mX1_isMember_ok h.2.2.2.2.2.2 hG hn h.1) (fun r hr => gOk_chk ?_ (gOk_some hr))
  rw [hr]
  by_cases q : ((sqF g (nlg N)).1.testBit n || (sqF g (nlg N)).2.testBit n) = true
  · rw [if_pos q]; exact Or.inr rfl
  · rw [if_neg q]; exact Or.inl rfl
theorem mX4_isConfigurationCommitted_ok (h : BN0 μ k n g N) (hb : nbs N ≤ ncm N) : gOk (mX4_isConfigurationCommitted nc k μ) (fun r => r = if sqCI (nlg N) ≤ ncm N then 1 else 0) := by
  unfold mX4_isConfigurationCommitted
  refine gOk_lt h.2.2.2.2.1 h.2.2.2.2.2.2.1 (fun q => gOk_some ?_) (fun q => gOk_some ?_)
  · rw [if_neg (by omega)]
  · rw [if_pos (by omega)]
theorem mX4_follow_ok (h : BN μ k n g N) : gOk (mX4_follow nc k μ) (fun μ' => gFr (ldP k) μ μ' ∧ BN μ' k n g (nRo N 0)) := by
  unfold mX4_follow
  refine gOk_let (gOk_some ⟨gFr.w ⟨rfl, Or.inl ⟨rfl, Or.inl rfl⟩⟩, h.1.cg (fun f j q => by rw [w3_o _ _ (by omega)]), by rw [w3_at]; rfl, by rw [w3_o _ _ (by omega)]; exact h.2.2.1, fun q => (by cases q), fun q => (by cases q)⟩)
theorem mX4_goDown_ok (h : BN μ k n g N) : gOk (mX4_goDown nc k μ) (fun μ' => gFr (bnP k) μ μ' ∧ BN μ' k n g (nRo (nUp N false) 0)) := by
  obtain ⟨⟨h0, h5, h7, h8, h9, hl, hf⟩, h6, h10, -⟩ := h
  unfold mX4_goDown
  refine gOk_let (gOk_let (gOk_some ⟨(gFr.w ⟨rfl, by omega⟩).tr (gFr.w ⟨rfl, by omega⟩), ⟨?_, ?_, ?_, ?_, ?_, ?_, ?_⟩, ?_, ?_, fun q => (by cases q), fun q => (by cases q)⟩))
  · rw [w3_o _ _ (by omega), w3_o _ _ (by omega)]; exact h0
  · rw [w3_o _ _ (by omega), w3_at]; rfl
  · rw [w3_o _ _ (by omega), w3_o _ _ (by omega)]; exact h7
  · rw [w3_o _ _ (by omega), w3_o _ _ (by omega)]; exact h8
  · rw [w3_o _ _ (by omega), w3_o _ _ (by omega)]; exact h9
  · exact hl.cg (fun j _ _ => by rw [w3_o _ _ (by omega), w3_o _ _ (by omega)]) (fun f j _ _ _ => by rw [w3_o _ _ (by omega), w3_o _ _ (by omega)])
  · unfold CF
    rw [w3_o _ _ (by omega), w3_o _ _ (by omega), w3_o _ _ (by omega), w3_o _ _ (by omega), w3_o _ _ (by omega), w3_o _ _ (by omega)]
    exact hf
  · rw [w3_at]; rfl
  · rw [w3_o _ _ (by omega), w3_o _ _ (by omega)]; exact h10
theorem mX4_lead_ok (h : BN0 μ k n g N) (hB : (nlg N).length < 900000000) : gOk (mX4_lead nc k μ) (fun μ' => gFr (ldP k) μ μ' ∧ BN μ' k n g (nLead N)) := by
  unfold mX4_lead
  refine gOk_lee (fun μ1 h1 => gOk_lee (fun μ3 h3 => gOk_jon ?_))
  have F3 : gFr (ldP k) μ μ3 := by
    rw [h3, h1]
    exact (gFr.w ⟨rfl, by omega⟩).tr (gFr.w ⟨rfl, by omega⟩)
  refine gOk_fx2 (fun v (x7 : Int32) (μ8 : gM) => ∃ j, v = 5 - j ∧ j ≤ 5 ∧ x7.toInt = (j : Int) ∧ gFr (ldP k) μ μ8 ∧ μ8 11 k 6 = 2 ∧ μ8 11 k 10 = 3 ∧ ∀ u, u < j → (μ8 13 k u).toInt = (((nlg N).length + 1 : Nat) : Int) ∧ (μ8 14 k u).toInt = 0 ∧ (μ8 15 k u).toInt = -1) ?_ 1000000 5 _ _ (by omega) ⟨0, rfl, Nat.zero_le _, rfl, F3, by rw [h3, w3_o _ _ (by omega), h1, w3_at], by rw [h3, w3_at], fun u hu => absurd hu (by omega)⟩
  intro rec v x7 μ8 hI ih
  obtain ⟨j, hv, j1, j2, j3, j4, j5, j6⟩ := hI
  subst hv
  refine gOk_le (x := 5) (a := 5) rfl j2 (fun q => gOk_some ⟨j3, h.cg (fun f j q => j3 f k j (fun z => by have := z.2; omega)), ?_, j5, fun q => (by cases q), fun _ u hu => ?_⟩) (fun q => ?_)
  · rw [j4]; rfl
  · exact j6 u (by omega)
  · have hj5 : j < 5 := by omega
    have ej : (x7 + 1).toInt = ((j + 1 : Nat) : Int) := by rw [ti_add j2 (y := 1) (b := 1) rfl (by omega) (by omega)]; omega
    have p8 := ti_inb (n := 5) j2 (by omega)
    have C8 : CL μ8 k g (nlg N) (nbs N) := h.2.2.2.2.2.1.cg (fun j _ _ => j3 12 k j (fun z => by have := z.2; omega)) (fun f j _ _ _ => j3 f k j (fun z => by have := z.2; omega))
    refine gOk_bp (mX1_lastIndex_ok C8 (by omega)) (fun r12 h12 => ?_)
    simp only [ti_cl j2]
    refine gOk_chk p8 (gOk_let (gOk_chk p8 (gOk_let (gOk_chk p8 (gOk_let (ih _ _ (5 - (j + 1)) (by omega) ⟨j + 1, rfl, by omega, ej, j3.tr ((gFr.w ⟨rfl, by omega⟩).tr ((gFr.w ⟨rfl, by omega⟩).tr (gFr.w ⟨rfl, by omega⟩))), ?_, ?_, fun u hu => ?_⟩))))))
    · rw [w3_o _ _ (by omega), w3_o _ _ (by omega), w3_o _ _ (by omega)]; exact j4
    · rw [w3_o _ _ (by omega), w3_o _ _ (by omega), w3_o _ _ (by omega)]; exact j5
    · rcases Nat.lt_or_ge u j with q2 | q2
      · rw [w3_o _ _ (by omega), w3_o _ _ (by omega), w3_o _ _ (by omega), w3_o _ _ (by omega), w3_o _ _ (by omega), w3_o _ _ (by omega), w3_o _ _ (by omega), w3_o _ _ (by omega), w3_o _ _ (by omega)]
        exact j6 u q2
      · have hu' : u = j := by omega
        subst hu'
        rw [w3_o _ _ (by omega), w3_o _ _ (by omega), w3_at, w3_o _ _ (by omega), w3_at, w3_at]
        exact ⟨by rw [ti_add h12 (y := 1) (b := 1) rfl (by omega) (by omega)]; omega, rfl, ti_m1⟩
end SqCln
