/-! The class: appends that come in. -/
theorem zN_id (S : sqSt) (n : Nat) : zN S n (zno S n) = S := by
  have h : sqU1 (zno S) n (zno S n) = zno S := by
    funext v
    by_cases q : v = n
    · rw [q, sqU1_at]
    · rw [sqU1_ne q]
  unfold zN
  rw [h]
theorem zS_0 (S : sqSt) (k : Nat) : zS S k 0 = S := by
  have h : sqU1 (zst S) k (zst S k + 0) = zst S := by
    funext v
    by_cases q : v = k
    · rw [q, sqU1_at, Int32.add_zero]
    · rw [sqU1_ne q]
  unfold zS
  rw [h]
theorem zS_zS (S : sqSt) (k : Nat) (x y : Int32) : zS (zS S k x) k y = zS S k (x + y) := by
  have h : sqU1 (sqU1 (zst S) k (zst S k + x)) k (sqU1 (zst S) k (zst S k + x) k + y) = sqU1 (zst S) k (zst S k + (x + y)) := by
    funext v
    by_cases q : v = k
    · rw [q, sqU1_at, sqU1_at, sqU1_at, Int32.add_assoc]
    · rw [sqU1_ne q, sqU1_ne q, sqU1_ne q]
  show (zg S, zti S, zde S, zse S, zcu S, sqU1 (sqU1 (zst S) k (zst S k + x)) k (sqU1 (zst S) k (zst S k + x) k + y), zwi S, zno S, zms S) = _
  rw [h]
  rfl
section SqClp
variable {μ μ' μ1 : gM} {n g b k i nc B t t1 s q kk : Nat} {l : List sqE} {a1 a2 a3 a4 : Int32} {e : sqE} {m : sqMs} {S S' : sqSt} {N : sqN}
/-- the cells of a node and of the cluster's numbers -/
def apP (q n : Nat) : Nat → Nat → Nat → Prop := fun f i j => bnP (5 * q + n) f i j ∨ (f = 6 ∧ i = q)
theorem apP_rb (hn : n < 5) : ∀ f i j, apP q n f i j → rbP q f i j := fun f i j h => h.elim (bnP_rb hn f i j) (fun z => Or.inl ⟨z.2, by omega⟩)
theorem bnP_ap : ∀ f i j, bnP (5 * q + n) f i j → apP q n f i j := fun _ _ _ h => Or.inl h
theorem apP_f {f i j : Nat} (h : apP q n f i j) : f = 6 ∨ (11 ≤ f ∧ f ≤ 18) := h.elim (fun z => by have := z.2; omega) (fun z => Or.inl z.1)
theorem BM.ap (hm : BM μ t g m) (F : gFr (apP q n) μ μ') : BM μ' t g m := hm.cg (fun j _ _ => F 19 t j (fun z => by have := apP_f z; omega)) (fun f j _ _ _ => F f t j (fun z => by have := apP_f z; omega))
theorem nwP_ap (F : gFr (apP q n) μ μ') (i : Nat) : nwP μ' q i = nwP μ q i := by
  have o : ∀ f j, f = 9 ∨ f = 10 → μ' f q j = μ f q j := fun f j hf => F f q j (fun z => by have := apP_f z; omega)
  exact nwP_cg (fun _ => o 10 i (by omega)) (fun _ => o 9 1 (by omega)) (fun _ => o 9 2 (by omega))
/-- the state in the loop: rem were removed, the log is lg -/
abbrev zTk (S : sqSt) (n : Nat) (lg : List sqE) (rem : Nat) : sqSt := zS (zN S n (nLg (zno S n) lg)) 5 (Int32.ofNat rem)
theorem zTk_no (S : sqSt) (n : Nat) (lg : List sqE) (rem : Nat) : zno (zTk S n lg rem) n = nLg (zno S n) lg := zN_at _ _ _
theorem zTk_lg (S : sqSt) (n : Nat) (lg lg' : List sqE) (rem : Nat) : zN (zTk S n lg rem) n (nLg (nLg (zno S n) lg) lg') = zTk S n lg' rem := by
  show zS (zN (zN S n (nLg (zno S n) lg)) n (nLg (nLg (zno S n) lg) lg')) 5 (Int32.ofNat rem) = _
  rw [zN_zN]
  rfl
theorem zTk_rem (S : sqSt) (n : Nat) (lg : List sqE) (rem d : Nat) : zS (zTk S n lg rem) 5 (Int32.ofNat d) = zTk S n lg (rem + d) := by
  unfold zTk
  rw [zS_zS, Int32.ofNat_add]
/-- the loop of an append -/
theorem mX0_takeAppend_loop (h : RY B μ q S) (hB8 : B < 800000000) (hn : n < 5) (hm : BM μ t g m) (hk : mki m = 2) (hL : LM B (zti S) m) (hLe : (mes m).length = mfl m) {Q : Int32 × gM → Prop} {j10 : Int32 → gM → Option (Int32 × gM)} {j25 : Int32 → gM → Option (Int32 × gM)} (hj : ∀ x8 μ9, x8.toInt = ((sqTake (nbs (zno S n)) (mes m) (nlg (zno S n)) (mix m)).2.1 : Int) → gFr (apP q n) μ μ9 → RB μ9 q (zTk S n (sqTake (nbs (zno S n)) (mes m) (nlg (zno S n)) (mix m)).1 (sqTake (nbs (zno S n)) (mes m) (nlg (zno S n)) (mix m)).2.2) → gOk (j10 x8 μ9) Q ∧ gOk (j25 x8 μ9) Q) {x4 : Int32} (h4 : x4.toInt = (mix m : Int)) :
   gOk (gFx3 (fun rec29 (x26 : Int32) (x27 : Int32) (μ28 : gM) =>
        if (μ28 19 t 3) ≤ x27 then
          j10 x26 μ28
        else
          if 4 ≤ x27 then
            j10 x26 μ28
          else
            gLet (α := Int32) (x26 + 1) fun x32 =>
            gBp (mX1_has nc (5 * q + n) x32 μ28) fun r37 =>
            gJon (fun (μ38 : gM) =>
                gBp (mX1_lastIndex nc (5 * q + n) μ38) fun r41 =>
                if x32 ≤ r41 then
                  rec29 x32 (x27 + 1) μ38
                else
                  gChk (inb x27 4) <|
                  gChk (inb x27 4) <|
                  gChk (inb x27 4) <|
                  gBd (mX1_append nc (5 * q + n) (μ38 20 t (x27.toNatClampNeg)) (μ38 21 t (x27.toNatClampNeg)) (μ38 22 t (x27.toNatClampNeg)) μ38) fun r47 μ48 =>
                  if r47 = 0 then
                    j25 x26 μ48
                  else
                    rec29 x32 (x27 + 1) μ48) fun j39 =>
            if r37 = 0 then
              j39 μ28
            else
              gBp (mX1_termAt nc (5 * q + n) x32 μ28) fun r52 =>
              gChk (inb x27 4) <|
              if r52 = (μ28 20 t (x27.toNatClampNeg)) then
                j39 μ28
              else
                gBd (mX1_cutFrom nc (5 * q + n) x32 μ28) fun r56 μ57 =>
                gLet (α := gM) (w3 μ57 6 q 7 ((μ28 6 q 7) + r56)) fun μ58 =>
                j39 μ58) 1000000 x4 0 μ) Q := by
  have hlen := h.len hn
  have hlen8 : (nlg (zno S n)).length ≤ B := (h.2.1.2.2.2.2.1 n hn).2.1
  obtain ⟨c11, c13, c3, cE⟩ := hm.2.2.2.2.2.2.2.2.2.2.1 hk
  have hl4 : (mes m).length ≤ 4 := cE.2.1
  have hB := h.2.2
  have hixB : mix m + (mes m).length ≤ B := hL.2.2.1 hk
  have hLes : LL B (mes m) := hL.2.2.2.2.2.2.2.2.1
  have hb0 : nbs (zno S n) ≤ (nlg (zno S n)).length ∧ (nlg (zno S n)).length ≤ nbs (zno S n) + 24 := ⟨(h.1.2.1 n hn).1.2.2.2.2.2.1.2.1, (h.1.2.1 n hn).1.2.2.2.2.2.1.2.2.1⟩
  have hLL0 : LL B (nlg (zno S n)) := (h.2.1.2.2.2.2.1 n hn).2.2.1
  have st0 : zTk S n (nlg (zno S n)) 0 = S := by
    have e1 : nLg (zno S n) (nlg (zno S n)) = zno S n := rfl
    have e2 : Int32.ofNat 0 = 0 := rfl
    unfold zTk
    rw [e1, e2, zN_id, zS_0]
  refine gOk_fx3 (fun w (x26 : Int32) (x27 : Int32) (μ28 : gM) => ∃ k lg rem, w = (mes m).length - k ∧ k ≤ (mes m).length ∧ x26.toInt = ((mix m + k : Nat) : Int) ∧ x27.toInt = (k : Int) ∧ gFr (apP q n) μ μ28 ∧ RB μ28 q (zTk S n lg rem) ∧ LL B lg ∧ TkE (zno S n) m k lg rem) ?_ 1000000 (mes m).length _ _ _ (by omega) ⟨0, nlg (zno S n), 0, rfl, Nat.zero_le _, h4, rfl, gFr.rf, by rw [st0]; exact h.1, hLL0, rfl, rfl, by rw [Nat.zero_add]; rfl⟩
  intro rec w x26 x27 μ28 hI ih
  obtain ⟨k, lg, rem, hw, k1, k2, k3, k4, k5, k6, hE⟩ := hI
  subst hw
  have hm28 := hm.ap k4
  obtain ⟨d11, d13, d3, dE⟩ := hm28.2.2.2.2.2.2.2.2.2.2.1 hk
  have fin : (sqTake (nbs (zno S n)) ((mes m).drop k) lg (mix m + k)) = (lg, mix m + k, 0) → gOk (j10 x26 μ28) Q ∧ gOk (j25 x26 μ28) Q := fun hs => by
    obtain ⟨e1, e2, e3⟩ := hE
    rw [hs] at e1 e2 e3
    have e1 : (sqTake (nbs (zno S n)) (mes m) (nlg (zno S n)) (mix m)).1 = lg := e1
    have e2 : (sqTake (nbs (zno S n)) (mes m) (nlg (zno S n)) (mix m)).2.1 = mix m + k := e2
    have e3 : (sqTake (nbs (zno S n)) (mes m) (nlg (zno S n)) (mix m)).2.2 = rem := e3
    exact hj x26 μ28 (by rw [e2]; exact k2) k4 (by rw [e1, e3]; exact k5)
  refine gOk_le d3 k3 (fun z => ?_) (fun z => ?_)
  · have hke : k = (mes m).length := by omega
    have hd : (mes m).drop k = [] := by rw [hke, List.drop_length]
    exact (fin (by rw [hd]; rfl)).1
  · have hk' : k < (mes m).length := by omega
    refine gOk_le (x := 4) (a := 4) rfl k3 (fun z2 => absurd z2 (by omega)) (fun z2 => ?_)
    have he := List.getElem?_eq_getElem hk'
    have hd : (mes m).drop k = (mes m)[k] :: (mes m).drop (k + 1) := List.drop_eq_getElem_cons hk'
    have hle : LE1 B (mes m)[k] := hLes _ (List.getElem_mem hk')
    generalize hee : (mes m)[k] = e at *
    obtain ⟨p1, p2, p3⟩ := dE.2.2 k e he
    have hcons := sqTake_cons (nbs (zno S n)) e ((mes m).drop (k + 1)) lg (mix m + k)
    rw [← hd] at hcons
    have hidx : mix m + k + 1 = mix m + (k + 1) := by omega
    have hb := k5.2.1 n hn
    rw [zTk_no] at hb
    have hcl : CL μ28 (5 * q + n) (zg S) lg (nbs (zno S n)) := hb.1.2.2.2.2.2.1
    have hbl : nbs (zno S n) ≤ lg.length := hcl.2.1
    have hll : lg.length ≤ nbs (zno S n) + 24 := hcl.2.2.1
    have e32 : (x26 + 1).toInt = ((mix m + k + 1 : Nat) : Int) := by rw [ti_add k2 (y := 1) (b := 1) rfl (by omega) (by omega)]; omega
    have e27 : (x27 + 1).toInt = ((k + 1 : Nat) : Int) := by rw [ti_add k3 (y := 1) (b := 1) rfl (by omega) (by omega)]; omega
    obtain ⟨s1, s2, s3⟩ := hE
    refine gOk_lee (fun x32 h32 => ?_)
    rw [← h32] at e32
    refine gOk_bp (mX1_has_ok hcl (by omega) e32) (fun r37 h37 => ?_)
    have pk := ti_inb (n := 4) k3 (by omega)
    simp only [ti_cl k3]
    refine gOk_jq (γ := gM) (fun μ38 => ∃ lg1 rem1, gFr (apP q n) μ μ38 ∧ RB μ38 q (zTk S n lg1 rem1) ∧ LL B lg1 ∧ ((mix m + k < lg1.length ∧ lg1 = lg ∧ rem1 = rem ∧ (mix m + k + 1 ≤ nbs (zno S n) ∨ sqTT lg (mix m + k + 1) = sqT e)) ∨ (lg1 = lg ∧ rem1 = rem ∧ lg.length ≤ mix m + k ∧ nbs (zno S n) < mix m + k + 1) ∨ (lg1 = lg.take (mix m + k) ∧ rem1 = rem + (lg.length - (mix m + k)) ∧ nbs (zno S n) < mix m + k + 1 ∧ mix m + k < lg.length ∧ sqTT lg (mix m + k + 1) ≠ sqT e))) (fun μ38 h38 => ?_) (fun j39 hj39 => ?_)
    · obtain ⟨lg1, rem1, v1, v2, v3, hc⟩ := h38
      have hb1 := v2.2.1 n hn
      rw [zTk_no] at hb1
      have hcl1 : CL μ38 (5 * q + n) (zg S) lg1 (nbs (zno S n)) := hb1.1.2.2.2.2.2.1
      have hll1 : lg1.length ≤ nbs (zno S n) + 24 := hcl1.2.2.1
      refine gOk_bp (mX1_lastIndex_ok hcl1 (by omega)) (fun r41 h41 => ?_)
      refine gOk_le e32 h41 (fun z3 => ?_) (fun z3 => ?_)
      · rcases hc with ⟨c1, rfl, rfl, c4⟩ | ⟨c1, c2, c3, c4⟩ | ⟨c1, c2, c3, c4, c5⟩
        · have hcons2 : sqTake (nbs (zno S n)) ((mes m).drop k) lg1 (mix m + k) = sqTake (nbs (zno S n)) ((mes m).drop (k + 1)) lg1 (mix m + (k + 1)) := by
            by_cases y : mix m + k + 1 ≤ nbs (zno S n)
            · rw [if_pos y, hidx] at hcons; exact hcons
            · rw [if_neg y, if_pos c1, if_pos (c4.resolve_left y), hidx] at hcons; exact hcons
          rw [hcons2] at s1 s2 s3
          exact ih _ _ _ ((mes m).length - (k + 1)) (by omega) ⟨k + 1, lg1, rem1, rfl, by omega, by rw [e32, hidx], e27, v1, v2, v3, s1, s2, s3⟩
        · rw [c1] at z3; omega
        · have : lg1.length = mix m + k := by rw [c1, List.length_take]; omega
          omega
      · have q20 : μ38 20 t k = μ28 20 t k := by rw [v1 20 t k (fun y => by have := apP_f y; omega), k4 20 t k (fun y => by have := apP_f y; omega)]
        have q21 : μ38 21 t k = μ28 21 t k := by rw [v1 21 t k (fun y => by have := apP_f y; omega), k4 21 t k (fun y => by have := apP_f y; omega)]
        have q22 : μ38 22 t k = μ28 22 t k := by rw [v1 22 t k (fun y => by have := apP_f y; omega), k4 22 t k (fun y => by have := apP_f y; omega)]
        rw [q20, q21, q22]
        have hLLn : LL B (lg1 ++ [e]) := v3.app (fun f hf => by rw [List.mem_singleton.mp hf]; exact hle)
        refine gOk_chk pk (gOk_chk pk (gOk_chk pk (gOk_bd (mX1_append_ok (e := e) hcl1 hLLn (by omega) p1 p2 p3) (fun r47 μ48 hp => ?_))))
        by_cases y : lg1.length < nbs (zno S n) + 24
        · obtain ⟨y1, y2, y3, y4⟩ := hp.1 y
          have y1 : r47 = 1 := y1
          have y2 : gFr (clP (5 * q + n)) μ38 μ48 := y2
          refine gOk_if (fun w => absurd (y1.symm.trans w) (by decide)) (fun _ => ?_)
          have R48 := v2.node hn (y2.up clP_bn) (hb1.lg y2 y3 y4)
          rw [zTk_lg] at R48
          have nx : TkE (zno S n) m (k + 1) (lg1 ++ [e]) rem1 := by
            rcases hc with ⟨c1, c2, c3, c4⟩ | ⟨rfl, rfl, c3, c4⟩ | ⟨c1, c2, c3, c4, c5⟩
            · omega
            · rw [if_neg (by omega), if_neg (by omega), if_pos y, hidx] at hcons
              rw [hcons] at s1 s2 s3
              exact ⟨s1, s2, s3⟩
            · rw [if_neg (by omega), if_pos c4, if_neg c5, hidx, ← c1] at hcons
              rw [hcons] at s1 s2 s3
              refine ⟨s1, s2, s3.trans ?_⟩
              rw [c2]
              show rem + ((sqTake (nbs (zno S n)) ((mes m).drop (k + 1)) (lg1 ++ [e]) (mix m + (k + 1))).2.2 + (lg.length - (mix m + k))) = _
              omega
          exact ih _ _ _ ((mes m).length - (k + 1)) (by omega) ⟨k + 1, lg1 ++ [e], rem1, rfl, by omega, by rw [e32, hidx], e27, v1.tr ((y2.up clP_bn).up bnP_ap), R48, hLLn, nx⟩
        · have hp2 := hp.2 (by omega)
          have y1 : r47 = 0 := congrArg Prod.fst hp2
          have y2 : μ48 = μ38 := congrArg Prod.snd hp2
          refine gOk_if (fun _ => ?_) (fun w => absurd y1 w)
          rw [y2]
          rcases hc with ⟨c1, c2, c3, c4⟩ | ⟨rfl, rfl, c3, c4⟩ | ⟨c1, c2, c3, c4, c5⟩
          · omega
          · rw [if_neg (by omega), if_neg (by omega), if_neg y] at hcons
            rw [hcons] at s1 s2 s3
            have s1 : (sqTake (nbs (zno S n)) (mes m) (nlg (zno S n)) (mix m)).1 = lg1 := s1
            have s2 : (sqTake (nbs (zno S n)) (mes m) (nlg (zno S n)) (mix m)).2.1 = mix m + k := s2
            have s3 : (sqTake (nbs (zno S n)) (mes m) (nlg (zno S n)) (mix m)).2.2 = rem1 := s3
            exact (hj x26 μ38 (by rw [s2]; exact k2) v1 (by rw [s1, s3]; exact v2)).2
          · have : lg1.length = mix m + k := by rw [c1, List.length_take]; omega
            omega
    · by_cases hh : (nbs (zno S n) : Int) < ((mix m + k + 1 : Nat) : Int) ∧ ((mix m + k + 1 : Nat) : Int) ≤ (lg.length : Int)
      · rw [if_pos hh] at h37
        refine gOk_if (fun w => absurd (h37.symm.trans w) (by decide)) (fun _ => ?_)
        refine gOk_bp (mX1_termAt_ok hcl (by omega) e32 (by omega) (by omega)) (fun r52 h52 => gOk_chk pk ?_)
        refine gOk_eq h52 p1 (fun w => hj39 _ ⟨lg, rem, k4, k5, k6, Or.inl ⟨by omega, rfl, rfl, Or.inr (by omega)⟩⟩) (fun w => ?_)
        refine gOk_bd (mX1_cutFrom_ok hcl k6 (by omega) e32 (by omega) (by omega)) (fun r56 μ57 hp => gOk_lee (fun μ58 h58 => hj39 _ ⟨lg.take (mix m + k), rem + (lg.length - (mix m + k)), ?_, ?_, k6.take _, Or.inr (Or.inr ⟨rfl, rfl, by omega, by omega, by omega⟩)⟩))
        · obtain ⟨y1, y2, y3, y4⟩ := hp.2 (by omega)
          have y2 : gFr (clP (5 * q + n)) μ28 μ57 := y2
          rw [h58]
          exact k4.tr (((y2.up clP_bn).up bnP_ap).tr (gFr.w (Or.inr ⟨rfl, rfl⟩)))
        · obtain ⟨y1, y2, y3, y4⟩ := hp.2 (by omega)
          have y1 : r56.toInt = (lg.length : Int) - ((mix m + k + 1 : Nat) : Int) + 1 := y1
          have y2 : gFr (clP (5 * q + n)) μ28 μ57 := y2
          have ex : mix m + k + 1 - 1 = mix m + k := by omega
          rw [ex] at y3 y4
          have R57 := k5.node hn (y2.up clP_bn) (hb.lg y2 y3 y4)
          rw [zTk_lg] at R57
          have c7 : μ28 6 q 7 = μ57 6 q (2 + 5) := (y2 6 q 7 (fun z => by have := z.2; omega)).symm
          have er : r56 = Int32.ofNat (lg.length - (mix m + k)) := ti_of (by rw [y1]; omega)
          rw [c7, er] at h58
          have R58 := R57.st (c := 5) (by omega) (by omega) (Int32.ofNat (lg.length - (mix m + k)))
          rw [zTk_rem] at R58
          rw [h58]
          exact R58
      · rw [if_neg hh] at h37
        refine gOk_if (fun _ => hj39 _ ⟨lg, rem, k4, k5, k6, ?_⟩) (fun w => absurd h37 w)
        by_cases y : mix m + k + 1 ≤ nbs (zno S n)
        · exact Or.inl ⟨by omega, rfl, rfl, Or.inl y⟩
        · exact Or.inr (Or.inl ⟨rfl, rfl, by omega, by omega⟩)
end SqClp
