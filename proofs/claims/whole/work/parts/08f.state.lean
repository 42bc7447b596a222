/-! The simulation as a mathematical state, and what each call does to it. -/
/-- first group, time, delay, seed, links cut, statistics, winners, nodes, messages -/
abbrev sqSt : Type := Nat × Nat × Nat × Int32 × (Nat → Nat → Bool) × (Nat → Int32) × (Nat → Int32) × (Nat → sqN) × List sqMs
abbrev zg (S : sqSt) := S.1
abbrev zti (S : sqSt) := S.2.1
abbrev zde (S : sqSt) := S.2.2.1
abbrev zse (S : sqSt) := S.2.2.2.1
abbrev zcu (S : sqSt) := S.2.2.2.2.1
abbrev zst (S : sqSt) := S.2.2.2.2.2.1
abbrev zwi (S : sqSt) := S.2.2.2.2.2.2.1
abbrev zno (S : sqSt) := S.2.2.2.2.2.2.2.1
abbrev zms (S : sqSt) := S.2.2.2.2.2.2.2.2
def zN (S : sqSt) (n : Nat) (N : sqN) : sqSt := (zg S, zti S, zde S, zse S, zcu S, zst S, zwi S, sqU1 (zno S) n N, zms S)
def zM (S : sqSt) (l : List sqMs) : sqSt := (zg S, zti S, zde S, zse S, zcu S, zst S, zwi S, zno S, l)
def zS (S : sqSt) (k : Nat) (x : Int32) : sqSt := (zg S, zti S, zde S, zse S, zcu S, sqU1 (zst S) k (zst S k + x), zwi S, zno S, zms S)
def zW (S : sqSt) (k : Nat) (x : Int32) : sqSt := (zg S, zti S, zde S, zse S, zcu S, zst S, (if k < 100 then sqU1 (zwi S) k x else zwi S), zno S, zms S)
def zTi (S : sqSt) (t : Nat) : sqSt := (zg S, t, zde S, zse S, zcu S, zst S, zwi S, zno S, zms S)
def zDe (S : sqSt) (d : Nat) : sqSt := (zg S, zti S, d, zse S, zcu S, zst S, zwi S, zno S, zms S)
def zCu (S : sqSt) (a b : Nat) (x : Bool) : sqSt := (zg S, zti S, zde S, zse S, sqU2 (sqU2 (zcu S) a b x) b a x, zst S, zwi S, zno S, zms S)
def nUp (N : sqN) (x : Bool) : sqN := (x, nro N, ntm N, nvo N, ncm N, nti N, nvs N, nbs N, nlg N, nnx N, nmt N, nec N)
def nRo (N : sqN) (x : Nat) : sqN := (nup N, x, ntm N, nvo N, ncm N, nti N, nvs N, nbs N, nlg N, nnx N, nmt N, nec N)
def nBm (N : sqN) (x : Nat) : sqN := (nup N, 0, x, none, ncm N, nti N, nvs N, nbs N, nlg N, nnx N, nmt N, nec N)
def nVo (N : sqN) (x : Nat) : sqN := (nup N, nro N, ntm N, some x, ncm N, nti N, nvs N, nbs N, nlg N, nnx N, nmt N, nec N)
def nCm (N : sqN) (x : Nat) : sqN := (nup N, nro N, ntm N, nvo N, x, nti N, nvs N, nbs N, nlg N, nnx N, nmt N, nec N)
def nTi (N : sqN) (x : Int32) : sqN := (nup N, nro N, ntm N, nvo N, ncm N, x, nvs N, nbs N, nlg N, nnx N, nmt N, nec N)
def nVs (N : sqN) (x : Nat → Bool) : sqN := (nup N, nro N, ntm N, nvo N, ncm N, nti N, x, nbs N, nlg N, nnx N, nmt N, nec N)
def nBs (N : sqN) (x : Nat) : sqN := (nup N, nro N, ntm N, nvo N, ncm N, nti N, nvs N, x, nlg N, nnx N, nmt N, nec N)
def nLg (N : sqN) (x : List sqE) : sqN := (nup N, nro N, ntm N, nvo N, ncm N, nti N, nvs N, nbs N, x, nnx N, nmt N, nec N)
def nNx (N : sqN) (u x : Nat) : sqN := (nup N, nro N, ntm N, nvo N, ncm N, nti N, nvs N, nbs N, nlg N, sqU1 (nnx N) u x, nmt N, nec N)
def nAn (N : sqN) (u m : Nat) (e : Int) : sqN := (nup N, nro N, ntm N, nvo N, ncm N, nti N, nvs N, nbs N, nlg N, sqU1 (nnx N) u (m + 1), sqU1 (nmt N) u m, sqU1 (nec N) u e)
def nLead (N : sqN) : sqN := (nup N, 2, ntm N, nvo N, ncm N, 3, nvs N, nbs N, nlg N, fun _ => (nlg N).length + 1, fun _ => 0, fun _ => -1)
def nStand (N : sqN) (n : Nat) (t : Int32) : sqN := (nup N, 1, ntm N + 1, some n, ncm N, t, fun u => u == n, nbs N, nlg N, nnx N, nmt N, nec N)
def sqMb (g : Nat) (W : Nat → Bool) : Bool := decide ((List.range 5).countP (fun v => g.testBit v) < 2 * (List.range 5).countP (fun v => g.testBit v && W v))
def sqQb (c : Nat × Nat) (W : Nat → Bool) : Bool := sqMb c.2 W && (c.1 == 0 || sqMb c.1 W)
theorem sqQb_iff {c : Nat × Nat} {W : Nat → Bool} : sqQb c W = true ↔ sqQ c W := by
  unfold sqQb sqQ sqMb sqM
  simp
/-- the index of the last configuration in a log; 0 if there is none -/
def sqCI (l : List sqE) : Nat := (l.foldl (fun (p : Nat × Nat) e => (p.1 + 1, if (sqC e).isSome then p.1 + 1 else p.2)) (0, 0)).2
theorem sqCI_pair (l : List sqE) : l.foldl (fun (p : Nat × Nat) e => (p.1 + 1, if (sqC e).isSome then p.1 + 1 else p.2)) (0, 0) = (l.length, sqCI l) := by
  have h : ∀ (l : List sqE) (p : Nat × Nat), (l.foldl (fun (p : Nat × Nat) e => (p.1 + 1, if (sqC e).isSome then p.1 + 1 else p.2)) p).1 = p.1 + l.length := by
    intro l
    induction l with
    | nil => intro p; rfl
    | cons a l ih => intro p; rw [List.foldl_cons, ih, List.length_cons]; omega
  apply Prod.ext
  · rw [h]; simp
  · rfl
theorem sqCI_snoc (l : List sqE) (e : sqE) : sqCI (l ++ [e]) = if (sqC e).isSome then l.length + 1 else sqCI l := by
  have h := sqCI_pair l
  unfold sqCI
  rw [List.foldl_append, h]
  rfl
theorem sqCI_le (l : List sqE) : sqCI l ≤ l.length := by
  have h : ∀ k, k ≤ l.length → sqCI (l.take k) ≤ k := by
    intro k
    induction k with
    | zero => intro _; simp [sqCI]
    | succ k ih =>
      intro hk
      rw [List.take_succ_eq_append_getElem hk, sqCI_snoc]
      have := ih (Nat.le_of_lt hk)
      have hl : (l.take k).length = k := by rw [List.length_take]; omega
      split <;> omega
  have := h l.length (Nat.le_refl _)
  rwa [List.take_length] at this
theorem sqCI_lt (l : List sqE) : ∀ (j : Nat) (e : sqE), l[j]? = some e → sqC e ≠ none → j < sqCI l := by
  have h : ∀ k, k ≤ l.length → ∀ (j : Nat) (e : sqE), j < k → l[j]? = some e → sqC e ≠ none → j < sqCI (l.take k) := by
    intro k
    induction k with
    | zero => intro _ j e hj; omega
    | succ k ih =>
      intro hk j e hj he hc
      rw [List.take_succ_eq_append_getElem hk, sqCI_snoc]
      have hl : (l.take k).length = k := by rw [List.length_take]; omega
      rw [hl]
      by_cases hjk : j = k
      · subst hjk
        rw [List.getElem?_eq_getElem hk] at he
        rw [Option.some.inj he, if_pos (Option.isSome_iff_ne_none.mpr hc)]
        omega
      · have := ih (Nat.le_of_lt hk) j e (by omega) he hc
        split <;> omega
  intro j e he hc
  have := h l.length (Nat.le_refl _) j e (sq_lt he) he hc
  rwa [List.take_length] at this
/-- the greatest place in (lo, k] with P; lo if there is none -/
def sqFind (P : Nat → Bool) (lo : Nat) : Nat → Nat
  | 0 => lo
  | k + 1 => if k + 1 ≤ lo then lo else if P (k + 1) then k + 1 else sqFind P lo k
theorem sqFind_or (P : Nat → Bool) (lo : Nat) : ∀ k, sqFind P lo k = lo ∨ (lo < sqFind P lo k ∧ sqFind P lo k ≤ k ∧ P (sqFind P lo k) = true) := by
  intro k
  induction k with
  | zero => exact Or.inl rfl
  | succ k ih =>
    unfold sqFind
    by_cases h : k + 1 ≤ lo
    · rw [if_pos h]; exact Or.inl rfl
    · rw [if_neg h]
      by_cases hp : P (k + 1) = true
      · rw [if_pos hp]; exact Or.inr ⟨by omega, Nat.le_refl _, hp⟩
      · rw [if_neg hp]
        rcases ih with q | ⟨q1, q2, q3⟩
        · exact Or.inl q
        · exact Or.inr ⟨q1, by omega, q3⟩
def zTim (S : sqSt) (n T : Nat) : Int32 := 8 + ((ushr ((zse S + 5 * Int32.ofNat T + Int32.ofNat n) * (-1640531527)) 20) &&& 7)
def zc (S : sqSt) (N : sqN) : Nat × Nat := sqF (zg S) (nlg N)
def zmem (S : sqSt) (N : sqN) (i : Nat) : Bool := (zc S N).1.testBit i || (zc S N).2.testBit i
def zPost (S : sqSt) (m : sqMs) : sqSt := if zcu S (mse m) (mre m) = true ∨ 40 ≤ (zms S).length then zS (zS S 1 1) 2 1 else zM (zS S 1 1) (zms S ++ [m])
def zSnd (S : sqSt) (n i : Nat) : sqSt :=
  if nnx (zno S n) i ≤ nbs (zno S n) then zPost S (4, n, i, ntm (zno S n), zti S + zde S, nbs (zno S n), sqTT (nlg (zno S n)) (nbs (zno S n)), zti S, 0, 0, (nlg (zno S n)).take (nbs (zno S n)))
  else zPost S (2, n, i, ntm (zno S n), zti S + zde S, nnx (zno S n) i - 1, (((nlg (zno S n)).drop (nnx (zno S n) i - 1)).take 4).length, zti S, sqTT (nlg (zno S n)) (nnx (zno S n) i - 1), ncm (zno S n), ((nlg (zno S n)).drop (nnx (zno S n) i - 1)).take 4)
def zAll (S : sqSt) (n : Nat) : sqSt := (List.range 5).foldl (fun S i => if i ≠ n ∧ zmem S (zno S n) i = true then zSnd S n i else S) S
def zHold (N : sqN) (n i : Nat) : Nat → Bool := fun u => u == n || decide (i ≤ nmt N u)
def zCmx (S : sqSt) (n : Nat) (N : sqN) : Nat := sqFind (fun i => sqTT (nlg N) i == ntm N && sqQb (zc S N) (zHold N n i)) (ncm N) (nlg N).length
def zCom (S : sqSt) (n : Nat) : sqSt :=
  if sqCI (nlg (zno S n)) ≤ zCmx S n (zno S n) then
    if (zc S (zno S n)).1 ≠ 0 then
      (if (nlg (zno S n)).length < nbs (zno S n) + 24 then zN S n (nLg (nCm (zno S n) (zCmx S n (zno S n))) (nlg (zno S n) ++ [(ntm (zno S n), 2, Int32.ofNat (zc S (zno S n)).2)])) else zN S n (nCm (zno S n) (zCmx S n (zno S n))))
    else if (zc S (zno S n)).2.testBit n = true then zN S n (nCm (zno S n) (zCmx S n (zno S n)))
    else zN S n (nTi (nRo (nCm (zno S n) (zCmx S n (zno S n))) 0) (zTim S n (ntm (zno S n))))
  else zN S n (nCm (zno S n) (zCmx S n (zno S n)))
def zAdd (S : sqSt) (n k : Nat) (v : Int32) : sqSt := zN S n (nLg (zno S n) (nlg (zno S n) ++ [(ntm (zno S n), k, v)]))
def zLead (S : sqSt) (n : Nat) : sqSt := zN (zW (zS S 4 1) (ntm (zno S n)) (Int32.ofNat n)) n (nLead (zno S n))
def zWin (S : sqSt) (n : Nat) : sqSt := zAll (if (nlg (zno S n)).length < nbs (zno S n) + 24 then zCom (zAdd (zLead S n) n 3 0) n else zLead S n) n
def zAsk (S : sqSt) (n : Nat) : sqSt := (List.range 5).foldl (fun S i => if i ≠ n ∧ zmem S (zno S n) i = true then zPost S (0, n, i, ntm (zno S n), zti S + zde S, (nlg (zno S n)).length, sqTT (nlg (zno S n)) (nlg (zno S n)).length, zti S, 0, 0, []) else S) S
def zStand (S : sqSt) (n : Nat) : sqSt :=
  if sqQb (zc S (zno S n)) (fun u => u == n) = true then zWin (zAsk (zN (zS S 3 1) n (nStand (zno S n) n (zTim S n (ntm (zno S n) + 1)))) n) n
  else zAsk (zN (zS S 3 1) n (nStand (zno S n) n (zTim S n (ntm (zno S n) + 1)))) n
def zGr (N : sqN) (m : sqMs) : Bool := decide (mtm m = ntm N ∧ (nvo N = none ∨ nvo N = some (mse m)) ∧ (sqTT (nlg N) (nlg N).length < mfl m ∨ (sqTT (nlg N) (nlg N).length = mfl m ∧ (nlg N).length ≤ mix m)))
def zReq (S : sqSt) (n : Nat) (m : sqMs) : sqSt :=
  if zGr (zno S n) m = true then zPost (zN S n (nTi (nVo (zno S n) (mse m)) (zTim S n (ntm (zno S n))))) (1, n, mse m, ntm (zno S n), zti S + zde S, 0, 1, zti S, 0, 0, [])
  else zPost S (1, n, mse m, ntm (zno S n), zti S + zde S, 0, 0, zti S, 0, 0, [])
def zVs (S : sqSt) (n : Nat) (m : sqMs) : sqSt := zN S n (nVs (zno S n) (fun u => nvs (zno S n) u || u == mse m))
def zRep (S : sqSt) (n : Nat) (m : sqMs) : sqSt :=
  if nro (zno S n) = 1 ∧ mtm m = ntm (zno S n) ∧ mfl m = 1 then
    (if sqQb (zc S (zno S n)) (fun u => nvs (zno S n) u || u == mse m) = true then zWin (zVs S n m) n else zVs S n m)
  else S
def zAns (S : sqSt) (n : Nat) (m : sqMs) : sqSt :=
  if nro (zno S n) = 2 ∧ mtm m = ntm (zno S n) then
    (if mfl m = 1 then zCom (zN S n (nAn (zno S n) (mse m) (max (nmt (zno S n) (mse m)) (mix m)) (max (nec (zno S n) (mse m)) (mto m : Int)))) n
    else zSnd (zN S n (nNx (zno S n) (mse m) (max 1 (min (nnx (zno S n) (mse m) - 1) (mix m + 1))))) n (mse m))
  else S
/-- the entries of an append message that fits: the log, the end, how many were removed -/
def sqTake (bs : Nat) : List sqE → List sqE → Nat → List sqE × Nat × Nat
  | [], lg, idx => (lg, idx, 0)
  | e :: es, lg, idx =>
    if idx + 1 ≤ bs then sqTake bs es lg (idx + 1)
    else if idx < lg.length then
      (if sqTT lg (idx + 1) = sqT e then sqTake bs es lg (idx + 1)
      else ((sqTake bs es (lg.take idx ++ [e]) (idx + 1)).1, (sqTake bs es (lg.take idx ++ [e]) (idx + 1)).2.1, (sqTake bs es (lg.take idx ++ [e]) (idx + 1)).2.2 + (lg.length - idx)))
    else if lg.length < bs + 24 then sqTake bs es (lg ++ [e]) (idx + 1) else (lg, idx, 0)
def zOk (S : sqSt) (n : Nat) (m : sqMs) (fl ix : Nat) : sqSt := zPost S (3, n, mse m, ntm (zno S n), zti S + zde S, ix, fl, mto m, 0, 0, [])
def zApp (S : sqSt) (n : Nat) (m : sqMs) : sqSt :=
  if (nlg (zno S n)).length < mix m ∨ (nbs (zno S n) < mix m ∧ sqTT (nlg (zno S n)) (mix m) ≠ mbf m) then zOk S n m 0 (min (nlg (zno S n)).length (mix m - 1))
  else zOk (zS (zN S n (nCm (nLg (zno S n) (sqTake (nbs (zno S n)) (mes m) (nlg (zno S n)) (mix m)).1) (max (ncm (zno S n)) (min (mcm m) (sqTake (nbs (zno S n)) (mes m) (nlg (zno S n)) (mix m)).2.1)))) 5 (Int32.ofNat (sqTake (nbs (zno S n)) (mes m) (nlg (zno S n)) (mix m)).2.2)) n m 1 (sqTake (nbs (zno S n)) (mes m) (nlg (zno S n)) (mix m)).2.1
def zIns (S : sqSt) (n : Nat) (m : sqMs) : sqSt :=
  if ncm (zno S n) < mix m then zOk (zS (zN S n (nCm (nBs (nLg (zno S n) (if mix m ≤ (nlg (zno S n)).length ∧ sqTT (nlg (zno S n)) (mix m) = mfl m then nlg (zno S n) else mes m)) (mix m)) (mix m))) 6 1) n m 1 (mix m)
  else zOk S n m 1 (ncm (zno S n))
def zLdr (S : sqSt) (n : Nat) (m : sqMs) : sqSt :=
  if mtm m < ntm (zno S n) then zOk S n m 0 0
  else if mki m = 2 then zApp (zN S n (nTi (nRo (zno S n) 0) (zTim S n (ntm (zno S n))))) n m
  else zIns (zN S n (nTi (nRo (zno S n) 0) (zTim S n (ntm (zno S n))))) n m
def zBmp (S : sqSt) (n T : Nat) : sqSt := if ntm (zno S n) < T then zN S n (nBm (zno S n) T) else S
def zRcv (S : sqSt) (m : sqMs) : sqSt :=
  if nup (zno S (mre m)) = false then zS S 2 1
  else if mki m = 0 then zReq (zBmp S (mre m) (mtm m)) (mre m) m
  else if mki m = 1 then zRep (zBmp S (mre m) (mtm m)) (mre m) m
  else if mki m = 3 then zAns (zBmp S (mre m) (mtm m)) (mre m) m
  else zLdr (zBmp S (mre m) (mtm m)) (mre m) m
def zDel (S : sqSt) (w : Nat) : sqSt := zM S ((zms S).eraseIdx w)
/-- the due ones among the next k messages from the place w on are received -/
def zDlv : Nat → Nat → sqSt → sqSt
  | 0, _, S => S
  | k + 1, w, S => match (zms S)[w]? with
    | none => S
    | some m => if mdu m ≤ zti S then zDlv k w (zRcv (zDel S w) m) else zDlv k (w + 1) S
def zCnt (S : sqSt) (n : Nat) : sqSt :=
  if nup (zno S n) = true ∧ (nro (zno S n) = 2 ∨ zmem S (zno S n) n = true) then
    (if nti (zno S n) - 1 = 0 then
      (if nro (zno S n) = 2 then zAll (zN S n (nTi (zno S n) 3)) n else zStand (zN S n (nTi (zno S n) (nti (zno S n) - 1))) n)
    else zN S n (nTi (zno S n) (nti (zno S n) - 1)))
  else S
def zTick1 (S : sqSt) : sqSt := (List.range 5).foldl zCnt (zDlv (zms S).length 0 (zTi S (zti S + 1)))
def zTick : Nat → sqSt → sqSt
  | 0, S => S
  | k + 1, S => zTick k (zTick1 S)
def nFirst (t : Int32) : sqN := (true, 0, 0, none, 0, t, fun _ => false, 0, [], fun _ => 0, fun _ => 0, fun _ => 0)
def zBegin (g : Nat) (seed : Int32) : sqSt := (g, 0, 1, seed, fun _ _ => false, fun _ => 0, fun _ => -1, fun n => nFirst (8 + ((ushr ((seed + 5 * Int32.ofNat 0 + Int32.ofNat n) * (-1640531527)) 20) &&& 7)), [])
def zCrash (S : sqSt) (n : Nat) : sqSt := zN S n (nRo (nUp (zno S n) false) 0)
def zBack (S : sqSt) (n : Nat) : sqSt := zN S n (nTi (nCm (nUp (zno S n) true) (nbs (zno S n))) (zTim S n (ntm (zno S n))))
def zPack (S : sqSt) (n : Nat) : sqSt := zN S n (nBs (zno S n) (ncm (zno S n)))
def zSub (S : sqSt) (n k : Nat) (v : Int32) : sqSt := zCom (zAdd S n k v) n
