/-! Bounds and small facts that go on to hold, beside safety. -/
def LE1 (B : Nat) (e : sqE) : Prop := sqT e ≤ B ∧ e.2.1 ≤ 3 ∧ (e.2.1 = 1 → ∃ w, e.2.2 = Int32.ofNat w ∧ w < 1024) ∧ (e.2.1 = 2 → ∃ w, e.2.2 = Int32.ofNat w ∧ w < 32)
def LL (B : Nat) (l : List sqE) : Prop := ∀ e, e ∈ l → LE1 B e
def LN (B ti g n : Nat) (N : sqN) : Prop := ntm N ≤ B ∧ (nlg N).length ≤ B ∧ LL B (nlg N) ∧ nro N ≤ 2 ∧ (nro N ≠ 0 → nup N = true) ∧ (nro N = 1 → ((sqF g (nlg N)).1.testBit n || (sqF g (nlg N)).2.testBit n) = true) ∧ (nro N = 2 → ∀ u, u < 5 → -1 ≤ nec N u ∧ nec N u ≤ (ti : Int))
def LM (B ti : Nat) (m : sqMs) : Prop := mtm m ≤ B ∧ mix m ≤ B ∧ (mki m = 2 → mix m + (mes m).length ≤ B) ∧ (mes m).length ≤ B ∧ mfl m ≤ B ∧ mto m ≤ ti ∧ mbf m ≤ B ∧ mcm m ≤ B ∧ LL B (mes m) ∧ (mki m = 1 ∨ mki m = 3 → mfl m ≤ 1) ∧ mdu m ≤ ti + 5 ∧ (mki m ≠ 2 ∧ mki m ≠ 4 → mes m = []) ∧ (mki m ≠ 2 → mbf m = 0 ∧ mcm m = 0) ∧ mse m ≠ mre m
def LI (B : Nat) (S : sqSt) : Prop := zti S ≤ B ∧ (1 ≤ zde S ∧ zde S ≤ 5) ∧ (0 < zg S ∧ zg S < 32) ∧ (∀ n, n < 5 → LN B (zti S) (zg S) n (zno S n)) ∧ (∀ m, m ∈ zms S → LM B (zti S) m) ∧ (zms S).length ≤ 40
section SqLI
variable {B B' ti g n : Nat} {N : sqN} {S : sqSt} {h : sqH} {m : sqMs}
theorem LE1.up {e : sqE} (a : LE1 B e) (hB : B ≤ B') : LE1 B' e := ⟨Nat.le_trans a.1 hB, a.2⟩
theorem LL.up {l : List sqE} (a : LL B l) (hB : B ≤ B') : LL B' l := fun e he => (a e he).up hB
theorem LL.app {l l' : List sqE} (a : LL B l) (b : LL B l') : LL B (l ++ l') := fun e he => (List.mem_append.mp he).elim (a e) (b e)
theorem LL.take {l : List sqE} (a : LL B l) (k : Nat) : LL B (l.take k) := fun e he => a e (List.mem_of_mem_take he)
theorem LL.drop {l : List sqE} (a : LL B l) (k : Nat) : LL B (l.drop k) := fun e he => a e (List.mem_of_mem_drop he)
theorem LL.TT {l : List sqE} (a : LL B l) (i : Nat) : sqTT l i ≤ B := by
  unfold sqTT
  by_cases h0 : i = 0
  · rw [if_pos h0]; exact Nat.zero_le _
  · rw [if_neg h0]
    cases hl : l[i - 1]? with
    | none => exact Nat.zero_le _
    | some e => exact (a e (List.mem_of_getElem? hl)).1
theorem LN.up (a : LN B ti g n N) (hB : B ≤ B') : LN B' ti g n N := ⟨Nat.le_trans a.1 hB, Nat.le_trans a.2.1 hB, a.2.2.1.up hB, a.2.2.2⟩
theorem LM.up (a : LM B ti m) (hB : B ≤ B') : LM B' ti m := by
  obtain ⟨a1, a2, a3, a4, a5, a6, a7, a8, a9, a10⟩ := a
  exact ⟨by omega, by omega, fun q => Nat.le_trans (a3 q) hB, by omega, by omega, a6, by omega, by omega, a9.up hB, a10⟩
theorem LI.up (a : LI B S) (hB : B ≤ B') : LI B' S := ⟨Nat.le_trans a.1 hB, a.2.1, a.2.2.1, fun n hn => (a.2.2.2.1 n hn).up hB, fun m hm => (a.2.2.2.2.1 m hm).up hB, a.2.2.2.2.2⟩
theorem LI.stat (a : LI B S) {k : Nat} {x : Int32} : LI B (zS S k x) := a
theorem LI.wins (a : LI B S) {k : Nat} {x : Int32} : LI B (zW S k x) := a
theorem LI.node (a : LI B S) (hN : LN B (zti S) (zg S) n N) : LI B (zN S n N) := by
  refine ⟨a.1, a.2.1, a.2.2.1, fun v hv => ?_, a.2.2.2.2⟩
  by_cases q : v = n
  · rw [q]
    show LN B (zti S) (zg S) n (sqU1 (zno S) n N n)
    rw [sqU1_at]; exact hN
  · show LN B (zti S) (zg S) v (sqU1 (zno S) n N v)
    rw [sqU1_ne q]; exact a.2.2.2.1 v hv
theorem LI.post (a : LI B S) (M : LM B (zti S) m) : LI B (zPost S m) := by
  unfold zPost
  by_cases q : zcu S (mse m) (mre m) = true ∨ 40 ≤ (zms S).length
  · rw [if_pos q]; exact a
  · rw [if_neg q]
    refine ⟨a.1, a.2.1, a.2.2.1, a.2.2.2.1, fun m' hm => ?_, ?_⟩
    · rcases List.mem_append.mp hm with r | r
      · exact a.2.2.2.2.1 m' r
      · rw [List.mem_singleton.mp r]; exact M
    · show (zms S ++ [m]).length ≤ 40
      rw [List.length_append]
      have : ¬ 40 ≤ (zms S).length := fun r => q (Or.inr r)
      have e : [m].length = 1 := rfl
      omega
theorem LI.snd (a : LI B S) (hn : n < 5) {i : Nat} (hin : i ≠ n) (hx : ncm (zno S n) ≤ (nlg (zno S n)).length ∧ nbs (zno S n) ≤ (nlg (zno S n)).length ∧ nnx (zno S n) i ≤ (nlg (zno S n)).length + 1) : LI B (zSnd S n i) := by
  obtain ⟨b1, b2, b3, b4⟩ := a.2.2.2.1 n hn
  have hti := a.1
  have hde := a.2.1
  unfold zSnd
  by_cases q : nnx (zno S n) i ≤ nbs (zno S n)
  · rw [if_pos q]
    refine a.post ⟨b1, ?_, fun r => (by cases r), ?_, b3.TT _, Nat.le_refl _, Nat.zero_le _, Nat.zero_le _, b3.take _, ?_, ?_, ?_, fun _ => ⟨rfl, rfl⟩, ?_⟩
    · exact Nat.le_trans hx.2.1 b2
    · show ((nlg (zno S n)).take (nbs (zno S n))).length ≤ B
      rw [List.length_take]; omega
    · intro r
      rcases r with r | r <;> cases r
    · show zti S + zde S ≤ zti S + 5
      omega
    · intro r
      exact absurd rfl r.2
    · show n ≠ i
      exact Ne.symm hin
  · rw [if_neg q]
    have hl : (((nlg (zno S n)).drop (nnx (zno S n) i - 1)).take 4).length ≤ (nlg (zno S n)).length - (nnx (zno S n) i - 1) := by
      rw [List.length_take, List.length_drop]; exact Nat.min_le_right _ _
    refine a.post ⟨b1, ?_, fun _ => ?_, ?_, ?_, Nat.le_refl _, b3.TT _, ?_, (b3.drop _).take _, ?_, ?_, ?_, fun r => absurd rfl r, ?_⟩
    · show nnx (zno S n) i - 1 ≤ B
      omega
    · show nnx (zno S n) i - 1 + (((nlg (zno S n)).drop (nnx (zno S n) i - 1)).take 4).length ≤ B
      omega
    · show (((nlg (zno S n)).drop (nnx (zno S n) i - 1)).take 4).length ≤ B
      omega
    · show (((nlg (zno S n)).drop (nnx (zno S n) i - 1)).take 4).length ≤ B
      omega
    · show ncm (zno S n) ≤ B
      omega
    · intro r
      rcases r with r | r <;> cases r
    · show zti S + zde S ≤ zti S + 5
      omega
    · intro r
      exact absurd rfl r.1
    · show n ≠ i
      exact Ne.symm hin
theorem zSnd_ti (S : sqSt) (n i : Nat) : zti (zSnd S n i) = zti S := by
  unfold zSnd; split <;> exact zPost_ti _ _
theorem LI.all (a : LI B S) (hn : n < 5) (hx : ncm (zno S n) ≤ (nlg (zno S n)).length ∧ nbs (zno S n) ≤ (nlg (zno S n)).length ∧ ∀ i, i < 5 → nnx (zno S n) i ≤ (nlg (zno S n)).length + 1) : LI B (zAll S n) ∧ zti (zAll S n) = zti S := by
  have key : ∀ (l : List Nat) (S : sqSt), (∀ i, i ∈ l → i < 5) → LI B S → (ncm (zno S n) ≤ (nlg (zno S n)).length ∧ nbs (zno S n) ≤ (nlg (zno S n)).length ∧ ∀ i, i < 5 → nnx (zno S n) i ≤ (nlg (zno S n)).length + 1) → LI B (l.foldl (fun S i => if i ≠ n ∧ zmem S (zno S n) i = true then zSnd S n i else S) S) ∧ zti (l.foldl (fun S i => if i ≠ n ∧ zmem S (zno S n) i = true then zSnd S n i else S) S) = zti S := by
    intro l
    induction l with
    | nil => intro S _ I _; exact ⟨I, rfl⟩
    | cons c l ih =>
      intro S hl I hx
      rw [List.foldl_cons]
      by_cases q : c ≠ n ∧ zmem S (zno S n) c = true
      · rw [if_pos q]
        have e := zSnd_no S n c
        have e2 := zSnd_ti S n c
        obtain ⟨r1, r2⟩ := ih (zSnd S n c) (fun i hi => hl i (List.mem_cons_of_mem _ hi)) (I.snd hn q.1 ⟨hx.1, hx.2.1, hx.2.2 c (hl c List.mem_cons_self)⟩) (by rw [e]; exact hx)
        exact ⟨r1, r2.trans e2⟩
      · rw [if_neg q]
        exact ih S (fun i hi => hl i (List.mem_cons_of_mem _ hi)) I hx
  exact key (List.range 5) S (fun i hi => List.mem_range.mp hi) a hx
theorem LI.ask (a : LI B S) (hn : n < 5) : LI B (zAsk S n) ∧ zti (zAsk S n) = zti S ∧ zno (zAsk S n) = zno S := by
  have key : ∀ (l : List Nat) (S : sqSt), LI B S → LI B (l.foldl (fun S i => if i ≠ n ∧ zmem S (zno S n) i = true then zPost S (0, n, i, ntm (zno S n), zti S + zde S, (nlg (zno S n)).length, sqTT (nlg (zno S n)) (nlg (zno S n)).length, zti S, 0, 0, []) else S) S) ∧ zti (l.foldl (fun S i => if i ≠ n ∧ zmem S (zno S n) i = true then zPost S (0, n, i, ntm (zno S n), zti S + zde S, (nlg (zno S n)).length, sqTT (nlg (zno S n)) (nlg (zno S n)).length, zti S, 0, 0, []) else S) S) = zti S ∧ zno (l.foldl (fun S i => if i ≠ n ∧ zmem S (zno S n) i = true then zPost S (0, n, i, ntm (zno S n), zti S + zde S, (nlg (zno S n)).length, sqTT (nlg (zno S n)) (nlg (zno S n)).length, zti S, 0, 0, []) else S) S) = zno S := by
    intro l
    induction l with
    | nil => intro S I; exact ⟨I, rfl, rfl⟩
    | cons c l ih =>
      intro S I
      rw [List.foldl_cons]
      by_cases q : c ≠ n ∧ zmem S (zno S n) c = true
      · rw [if_pos q]
        obtain ⟨b1, b2, b3, b4⟩ := I.2.2.2.1 n hn
        have hde := I.2.1
        have I1 : LI B (zPost S (0, n, c, ntm (zno S n), zti S + zde S, (nlg (zno S n)).length, sqTT (nlg (zno S n)) (nlg (zno S n)).length, zti S, 0, 0, [])) := by
          refine I.post ⟨b1, b2, fun r => (by cases r), Nat.zero_le _, b3.TT _, Nat.le_refl _, Nat.zero_le _, Nat.zero_le _, fun e he => (by cases he), ?_, ?_, fun _ => rfl, fun _ => ⟨rfl, rfl⟩, ?_⟩
          · intro r
            rcases r with r | r <;> cases r
          · show zti S + zde S ≤ zti S + 5
            omega
          · show n ≠ c
            exact Ne.symm q.1
        obtain ⟨r1, r2, r3⟩ := ih _ I1
        exact ⟨r1, r2.trans (zPost_ti _ _), r3.trans (zPost_no _ _)⟩
      · rw [if_neg q]
        exact ih S I
  exact key (List.range 5) S a
theorem zCmx_le (hc : ncm (zno S n) ≤ (nlg (zno S n)).length) : ncm (zno S n) ≤ zCmx S n (zno S n) ∧ zCmx S n (zno S n) ≤ (nlg (zno S n)).length := by
  rcases sqFind_or (fun i => sqTT (nlg (zno S n)) i == ntm (zno S n) && sqQb (zc S (zno S n)) (zHold (zno S n) n i)) (ncm (zno S n)) (nlg (zno S n)).length with q | ⟨q1, q2, q3⟩
  · have e : zCmx S n (zno S n) = ncm (zno S n) := q
    rw [e]; exact ⟨Nat.le_refl _, hc⟩
  · exact ⟨Nat.le_of_lt q1, q2⟩
theorem LN.cm (b : LN B ti g n N) (k : Nat) : LN B ti g n (nCm N k) := b
theorem LN.fo (b : LN B ti g n N) (x : Int32) : LN B ti g n (nTi (nRo N 0) x) := ⟨b.1, b.2.1, b.2.2.1, Nat.zero_le _, fun r => absurd rfl r, fun r => (by cases r), fun r => (by cases r)⟩
theorem LN.ap (b : LN B ti g n N) (hr : nro N = 2) {e : sqE} (he : LE1 (B + 1) e) : LN (B + 1) ti g n (nLg N (nlg N ++ [e])) := by
  obtain ⟨b1, b2, b3, b4, b5, b6, b7⟩ := b
  refine ⟨Nat.le_succ_of_le b1, ?_, ?_, b4, b5, ?_, b7⟩
  · show (nlg N ++ [e]).length ≤ B + 1
    rw [List.length_append]
    exact Nat.succ_le_succ b2
  · refine (b3.up (Nat.le_succ B)).app (fun f hf => ?_)
    rw [List.mem_singleton.mp hf]
    exact he
  · intro r
    have r' : nro N = 1 := r
    rw [hr] at r'; cases r'
theorem LE1.gr {T c : Nat} (hT : T ≤ B) (hc : c < 32) : LE1 B (T, 2, Int32.ofNat c) := ⟨hT, by show 2 ≤ 3; decide, fun r => absurd r (by show ¬ 2 = 1; decide), fun _ => ⟨c, rfl, hc⟩⟩
theorem LI.put (a : LI B S) {N' : sqN} (q1 : LN (B + 1) (zti S) (zg S) n N') (q2 : (nlg (zno S n)).length ≤ (nlg N').length) (q3 : nnx N' = nnx (zno S n)) (q4 : nbs N' = nbs (zno S n)) {S1 : sqSt} (e : S1 = zN S n N') : LI (B + 1) S1 ∧ zti S1 = zti S ∧ (nlg (zno S n)).length ≤ (nlg (zno S1 n)).length ∧ nnx (zno S1 n) = nnx (zno S n) ∧ nbs (zno S1 n) = nbs (zno S n) := by
  subst e
  rw [zN_at]
  exact ⟨(a.up (Nat.le_succ B)).node q1, rfl, q2, q3, q4⟩
theorem LI.comf (a : LI B S) {k : Nat} (b0 : LN (B + 1) (zti S) (zg S) n (nCm (zno S n) k)) (x : Int32) {S1 : sqSt} (hz : S1 = zN S n (nTi (nRo (nCm (zno S n) k) 0) x)) : LI (B + 1) S1 ∧ zti S1 = zti S ∧ (nlg (zno S n)).length ≤ (nlg (zno S1 n)).length ∧ nnx (zno S1 n) = nnx (zno S n) ∧ nbs (zno S1 n) = nbs (zno S n) := a.put (b0.fo x) (Nat.le_refl _) rfl rfl hz
/-- committing leaves all but the commit index, one entry more, or the role -/
theorem LI.com (a : LI B S) (hn : n < 5) (hG : sqG (zc S (zno S n))) (hr : nro (zno S n) = 2) : LI (B + 1) (zCom S n) ∧ zti (zCom S n) = zti S ∧ (nlg (zno S n)).length ≤ (nlg (zno (zCom S n) n)).length ∧ nnx (zno (zCom S n) n) = nnx (zno S n) ∧ nbs (zno (zCom S n) n) = nbs (zno S n) := by
  have b := a.2.2.2.1 n hn
  generalize hz : zCom S n = S1
  unfold zCom at hz
  generalize zCmx S n (zno S n) = k at hz
  generalize zTim S n (ntm (zno S n)) = x at hz
  have b0 := (b.up (Nat.le_succ B)).cm k
  by_cases q1 : sqCI (nlg (zno S n)) ≤ k
  · rw [if_pos q1] at hz
    by_cases q2 : (zc S (zno S n)).1 ≠ 0
    · rw [if_pos q2] at hz
      by_cases q3 : (nlg (zno S n)).length < nbs (zno S n) + 24
      · rw [if_pos q3] at hz
        refine a.put ((b.cm k).ap hr (LE1.gr (Nat.le_succ_of_le b.1) hG.2.2)) ?_ rfl rfl hz.symm
        show (nlg (zno S n)).length ≤ (nlg (zno S n) ++ [(ntm (zno S n), 2, Int32.ofNat (zc S (zno S n)).2)]).length
        rw [List.length_append]; exact Nat.le_add_right _ _
      · rw [if_neg q3] at hz; exact a.put b0 (Nat.le_refl _) rfl rfl hz.symm
    · rw [if_neg q2] at hz
      by_cases q3 : (zc S (zno S n)).2.testBit n = true
      · rw [if_pos q3] at hz; exact a.put b0 (Nat.le_refl _) rfl rfl hz.symm
      · rw [if_neg q3] at hz
        exact a.comf b0 x hz.symm
  · rw [if_neg q1] at hz; exact a.put b0 (Nat.le_refl _) rfl rfl hz.symm
end SqLI
