/-! Bounds go on to hold: winning, standing, receiving. -/
section SqLI2
variable {B B' ti g n : Nat} {N : sqN} {S : sqSt} {h : sqH} {m : sqMs}
theorem LI.ndx (a : LI B S) (hn : n < 5) {N' : sqN} {S1 : sqSt} (e : S1 = zN S n N') (hN : LN B' (zti S) (zg S) n N') (hB : B ≤ B') : LI B' S1 := by
  subst e; exact (a.up hB).node hN
theorem zCmx_bd (I : zI h S) (hn : n < 5) : ncm (zno S n) ≤ (nlg (zno S n)).length ∧ nbs (zno S n) ≤ (nlg (zno S n)).length ∧ (nlg (zno S n)).length ≤ nbs (zno S n) + 24 ∧ nbs (zno S n) ≤ ncm (zno S n) := by
  obtain ⟨a8, a9, a10, a11⟩ := (I.2.2.1 n hn).2.2.2.1
  exact ⟨a9, Nat.le_trans a8 a9, a10, a8⟩
theorem zI.G (I : zI h S) (hn : n < 5) : sqG (zc S (zno S n)) := by
  unfold zc
  rw [← I.1]
  exact sqF_G I.2.1 (I.2.2.1 n hn).1.1
theorem LN.lead (b : LN B ti g n N) (hu : nup N = true) : LN B ti g n (nLead N) := ⟨b.1, b.2.1, b.2.2.1, Nat.le_refl _, fun _ => hu, fun r => (by cases r), fun _ _ _ => ⟨by show (-1 : Int) ≤ -1; omega, by show (-1 : Int) ≤ (ti : Int); omega⟩⟩
theorem zLead_at (S : sqSt) (n : Nat) : zno (zLead S n) n = nLead (zno S n) := by unfold zLead; exact zN_at _ _ _
theorem zLead_ti (S : sqSt) (n : Nat) : zti (zLead S n) = zti S ∧ zg (zLead S n) = zg S := by unfold zLead; exact ⟨rfl, rfl⟩
theorem LI.lead (a : LI B S) (hn : n < 5) (hu : nup (zno S n) = true) : LI B (zLead S n) := by
  unfold zLead
  exact LI.node (S := zW (zS S 4 1) (ntm (zno S n)) (Int32.ofNat n)) a ((a.2.2.2.1 n hn).lead hu)
theorem LI.win (a : LI B S) (I : zI h S) (hn : n < 5) (hr : nro (zno S n) = 1) (hQ : sqQb (zc S (zno S n)) (nvs (zno S n)) = true) : LI (B + 2) (zWin S n) ∧ zti (zWin S n) = zti S := by
  have a0 := I.2.2.1 n hn
  have hQ' := sqQb_iff.mp hQ
  unfold zc at hQ'
  rw [← I.1] at hQ'
  obtain ⟨b1, b2, b3⟩ := sq_win (N' := nLead (zno S n)) I.2.1 a0 hr hQ' rfl rfl rfl rfl rfl rfl (fun u => ⟨rfl, rfl⟩)
  have I1 : zI (hWin h n (ntm (zno S n)) (nlg (zno S n)) (nvs (zno S n))) (zLead S n) := zI.grow (S := zW (zS S 4 1) (ntm (zno S n)) (Int32.ofNat n)) I b1 b2 b3
  have e1 := zLead_at S n
  have e2 := zLead_ti S n
  have hb := zCmx_bd I hn
  have hu : nup (zno S n) = true := (a.2.2.2.1 n hn).2.2.2.2.1 (by rw [hr]; exact Nat.one_ne_zero)
  have a1 := a.lead hn hu
  unfold zWin
  by_cases q : (nlg (zno S n)).length < nbs (zno S n) + 24
  · rw [if_pos q]
    have hr1 : nro (zno (zLead S n) n) = 2 := by rw [e1]; rfl
    obtain ⟨c1, c2, c3⟩ := sq_app (N' := nLg (zno (zLead S n) n) (nlg (zno (zLead S n) n) ++ [(ntm (zno (zLead S n) n), 3, 0)])) I1.2.1 (I1.2.2.1 n hn) hr1 (e := (ntm (zno (zLead S n) n), 3, 0)) rfl (fun c hc => by cases hc) rfl rfl rfl rfl rfl hr1 rfl rfl (by rw [e1]; exact q)
    have I2 := zI.grow I1 c1 c2 c3
    have e3 : zno (zAdd (zLead S n) n 3 0) n = nLg (nLead (zno S n)) (nlg (zno S n) ++ [(ntm (zno S n), 3, 0)]) := by
      unfold zAdd; rw [zN_at, e1]; rfl
    have hr2 : nro (zno (zAdd (zLead S n) n 3 0) n) = 2 := by rw [e3]; rfl
    have a2 : LI (B + 1) (zAdd (zLead S n) n 3 0) := by
      have := (a1.2.2.2.1 n hn).ap hr1 (e := (ntm (zno (zLead S n) n), 3, 0)) ⟨Nat.le_succ_of_le (a1.2.2.2.1 n hn).1, by show 3 ≤ 3; decide, fun r => absurd r (by show ¬ 3 = 1; decide), fun r => absurd r (by show ¬ 3 = 2; decide)⟩
      exact a1.ndx hn rfl this (Nat.le_succ B)
    obtain ⟨d1, d2, d3, d4, d5⟩ := a2.com hn (zI.G (S := zAdd (zLead S n) n 3 0) I2 hn) hr2
    obtain ⟨h3, I3, D3⟩ := zI.com (S := zAdd (zLead S n) n 3 0) I2 hn hr2
    have hb3 := zCmx_bd I3 hn
    have := d1.all hn ⟨hb3.1, hb3.2.1, fun i hi => (D3.2.2 i hi).2⟩
    exact ⟨this.1, this.2.trans (d2.trans e2.1)⟩
  · rw [if_neg q]
    have hb1 := zCmx_bd I1 hn
    have D1 := sqNI.ld b3 rfl
    have := a1.all hn ⟨hb1.1, hb1.2.1, fun i hi => by rw [e1]; exact (D1.2.2 i hi).2⟩
    exact ⟨this.1.up (by omega), this.2.trans e2.1⟩
theorem LN.stand (b : LN B ti g n N) (hu : nup N = true) (hm : ((sqF g (nlg N)).1.testBit n || (sqF g (nlg N)).2.testBit n) = true) (x : Int32) : LN (B + 1) ti g n (nStand N n x) := ⟨Nat.succ_le_succ b.1, Nat.le_succ_of_le b.2.1, b.2.2.1.up (Nat.le_succ B), by show 1 ≤ 2; decide, fun _ => hu, fun _ => hm, fun r => (by cases r)⟩
theorem LI.stand2 (a : LI B S) (I : zI h S) (hn : n < 5) (hu : nup (zno S n) = true) (hm : zmem S (zno S n) n = true) (x : Int32) {S1 : sqSt} (e : S1 = zN S n (nStand (zno S n) n x)) : LI (B + 3) (zAsk S1 n) ∧ zti (zAsk S1 n) = zti S ∧ (sqQb (zc S (zno S n)) (fun u => u == n) = true → LI (B + 3) (zWin (zAsk S1 n) n) ∧ zti (zWin (zAsk S1 n) n) = zti S) := by
  have a1 : LI (B + 1) S1 := a.ndx hn e ((a.2.2.2.1 n hn).stand hu hm x) (Nat.le_succ B)
  have et : zti S1 = zti S := by rw [e]; rfl
  obtain ⟨b1, b2, b3⟩ := a1.ask hn
  obtain ⟨h1, I1, k1, k2⟩ := I.stand1 hn x
  rw [← e] at I1
  have e1 : zno S1 n = nStand (zno S n) n x := by rw [e]; exact zN_at _ _ _
  have e0 : zg S1 = zg S := by rw [e]; exact zN_g _ _ _
  obtain ⟨I2, e2, e3⟩ := I1.ask hn (by rw [e1]; exact k1) (by rw [e1]; exact k2)
  refine ⟨b1.up (by omega), b2.trans et, fun q => ?_⟩
  have hr : nro (zno (zAsk S1 n) n) = 1 := by rw [e2, e1]; rfl
  have hq : sqQb (zc (zAsk S1 n) (zno (zAsk S1 n) n)) (nvs (zno (zAsk S1 n) n)) = true := by
    unfold zc at q ⊢
    rw [e2, e3, e1, e0]
    exact q
  obtain ⟨c1, c2⟩ := b1.win I2 hn hr hq
  exact ⟨c1, c2.trans (b2.trans et)⟩
theorem LI.stand (a : LI B S) (I : zI h S) (hn : n < 5) (hu : nup (zno S n) = true) (hm : zmem S (zno S n) n = true) : LI (B + 3) (zStand S n) ∧ zti (zStand S n) = zti S := by
  have I0 : zI h (zS S 3 1) := I.stat
  have a0 : LI B (zS S 3 1) := a.stat
  obtain ⟨p0, p1, p2⟩ := a0.stand2 I0 hn hu hm (zTim S n (ntm (zno S n) + 1)) rfl
  unfold zStand
  by_cases q : sqQb (zc S (zno S n)) (fun u => u == n) = true
  · rw [if_pos q]; exact p2 q
  · rw [if_neg q]; exact ⟨p0, p1⟩
theorem LI.rep (a : LI B S) (I : zI h S) (hn : n < 5) (M : sqMI h m) (hk : mki m = 1) (hre : mre m = n) : LI (B + 2) (zRep S n m) ∧ zti (zRep S n m) = zti S := by
  unfold zRep
  by_cases q : nro (zno S n) = 1 ∧ mtm m = ntm (zno S n) ∧ mfl m = 1
  · rw [if_pos q]
    obtain ⟨q1, q2, q3⟩ := q
    have a0 := I.2.2.1 n hn
    have hv := M.2.2.1 hk q3
    rw [hre, q2] at hv
    have a1 : sqNI h n (nVs (zno S n) (fun u => nvs (zno S n) u || u == mse m)) := sqNI.same a0 rfl rfl rfl ⟨Nat.le_refl _, a0.2.2.2.1.1⟩ (Nat.le_refl _) (fun r => ⟨r, (a0.2.2.2.2.1 r).2.2.2⟩) (fun r => ⟨r, fun u hu hw => by
      have hw' : (nvs (zno S n) u || u == mse m) = true := hw
      rw [Bool.or_eq_true] at hw'
      rcases hw' with w | w
      · exact (a0.2.2.2.2.2 r).2.2.2 u hu w
      · rw [beq_iff_eq.mp w]; exact hv⟩)
    have I1 : zI h (zVs S n m) := I.node a1
    have b1 : LI B (zVs S n m) := a.ndx hn rfl (N' := nVs (zno S n) (fun u => nvs (zno S n) u || u == mse m)) (a.2.2.2.1 n hn) (Nat.le_refl _)
    by_cases p : sqQb (zc S (zno S n)) (fun u => nvs (zno S n) u || u == mse m) = true
    · rw [if_pos p]
      refine b1.win I1 hn ?_ ?_
      · unfold zVs; rw [zN_at]; exact q1
      · unfold zVs zc
        rw [zN_at]
        exact p
    · rw [if_neg p]; exact ⟨b1.up (by omega), rfl⟩
  · rw [if_neg q]; exact ⟨a.up (by omega), rfl⟩
theorem LI.req1 (a : LI B S) (hn : n < 5) (hse : mse m ≠ n) (x : Int32) {S1 : sqSt} (e : S1 = zN S n (nTi (nVo (zno S n) (mse m)) x)) (fl : Nat) (hf : fl ≤ 1) (hB : 1 ≤ B) {T d t : Nat} (hT : T = ntm (zno S n)) (hd : d = zti S + zde S) (ht : t = zti S) : LI B (zPost S1 (1, n, mse m, T, d, 0, fl, t, 0, 0, [])) ∧ zti (zPost S1 (1, n, mse m, T, d, 0, fl, t, 0, 0, [])) = zti S ∧ LI B (zPost S (1, n, mse m, T, d, 0, fl, t, 0, 0, [])) ∧ zti (zPost S (1, n, mse m, T, d, 0, fl, t, 0, 0, [])) = zti S := by
  have b1 : LI B S1 := a.ndx hn e (a.2.2.2.1 n hn) (Nat.le_refl _)
  have et : zti S1 = zti S := by rw [e]; rfl
  have M : LM B (zti S) (1, n, mse m, T, d, 0, fl, t, 0, 0, []) := by
    have b := a.2.2.2.1 n hn
    have hde := a.2.1
    refine ⟨by rw [hT]; exact b.1, Nat.zero_le _, fun r => (by cases r), Nat.zero_le _, Nat.le_trans hf hB, Nat.le_of_eq ht, Nat.zero_le _, Nat.zero_le _, fun e he => (by cases he), fun _ => hf, ?_, fun _ => rfl, fun _ => ⟨rfl, rfl⟩, Ne.symm hse⟩
    show d ≤ zti S + 5
    omega
  exact ⟨b1.post (by rw [et]; exact M), (zPost_ti _ _).trans et, a.post M, zPost_ti _ _⟩
theorem LI.req (a : LI B S) (hn : n < 5) (hse : mse m ≠ n) (hB : 1 ≤ B) : LI B (zReq S n m) ∧ zti (zReq S n m) = zti S := by
  unfold zReq
  by_cases q : zGr (zno S n) m = true
  · rw [if_pos q]
    obtain ⟨p1, p2, -⟩ := a.req1 (m := m) hn hse (zTim S n (ntm (zno S n))) rfl 1 (Nat.le_refl _) hB rfl rfl rfl
    exact ⟨p1, p2⟩
  · rw [if_neg q]
    obtain ⟨-, -, p1, p2⟩ := a.req1 (m := m) hn hse 0 rfl 0 (Nat.zero_le _) hB rfl rfl rfl
    exact ⟨p1, p2⟩
theorem LI.ok (a : LI B S) (M : LM B (zti S) m) (hn : n < 5) (hse : mse m ≠ n) {fl ix : Nat} (hf : fl ≤ 1) (hB : 1 ≤ B) (hi : ix ≤ B) : LI B (zOk S n m fl ix) ∧ zti (zOk S n m fl ix) = zti S := by
  have b := a.2.2.2.1 n hn
  have hde := a.2.1
  unfold zOk
  refine ⟨a.post ⟨b.1, hi, fun r => (by cases r), Nat.zero_le _, Nat.le_trans hf hB, M.2.2.2.2.2.1, Nat.zero_le _, Nat.zero_le _, fun e he => (by cases he), fun _ => hf, ?_, fun _ => rfl, fun _ => ⟨rfl, rfl⟩, Ne.symm hse⟩, zPost_ti _ _⟩
  show zti S + zde S ≤ zti S + 5
  omega
theorem sqTake_bd (bs : Nat) : ∀ (es lg : List sqE) (idx : Nat), LL B es → LL B lg → lg.length ≤ B → idx + es.length ≤ B → LL B (sqTake bs es lg idx).1 ∧ (sqTake bs es lg idx).1.length ≤ B ∧ (sqTake bs es lg idx).2.1 ≤ B := by
  intro es
  induction es with
  | nil => intro lg idx _ h1 h2 h3; exact ⟨h1, h2, h3⟩
  | cons e es ih =>
    intro lg idx h0 h1 h2 h3
    have h0' : LL B es := fun f hf => h0 f (List.mem_cons_of_mem _ hf)
    have h3' : idx + 1 + es.length ≤ B := by rw [List.length_cons] at h3; omega
    have he : LL B [e] := fun f hf => by rw [List.mem_singleton.mp hf]; exact h0 e List.mem_cons_self
    unfold sqTake
    by_cases q1 : idx + 1 ≤ bs
    · rw [if_pos q1]; exact ih lg (idx + 1) h0' h1 h2 h3'
    · rw [if_neg q1]
      by_cases q2 : idx < lg.length
      · rw [if_pos q2]
        by_cases q3 : sqTT lg (idx + 1) = sqT e
        · rw [if_pos q3]; exact ih lg (idx + 1) h0' h1 h2 h3'
        · rw [if_neg q3]
          refine ih (lg.take idx ++ [e]) (idx + 1) h0' ((h1.take idx).app he) ?_ h3'
          rw [List.length_append, List.length_take]
          have : [e].length = 1 := rfl
          omega
      · rw [if_neg q2]
        by_cases q3 : lg.length < bs + 24
        · rw [if_pos q3]
          by_cases q4 : lg.length < B
          · refine ih (lg ++ [e]) (idx + 1) h0' (h1.app he) ?_ h3'
            rw [List.length_append]
            have : [e].length = 1 := rfl
            omega
          · exfalso
            omega
        · rw [if_neg q3]
          exact ⟨h1, h2, (show idx ≤ B by omega)⟩
end SqLI2
