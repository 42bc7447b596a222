/-! Bounds go on to hold: answers, appends, snapshots, ticks. -/
section SqLI3
variable {B B' ti g n : Nat} {N : sqN} {S : sqSt} {h : sqH} {m : sqMs}
theorem zI.an1 (I : zI h S) (hn : n < 5) (M : sqMI h m) (hk : mki m = 3) (q1 : nro (zno S n) = 2) (q2 : mtm m = ntm (zno S n)) (p : mfl m = 1) (e : Int) : zI h (zN S n (nAn (zno S n) (mse m) (max (nmt (zno S n) (mse m)) (mix m)) e)) ∧ max (nmt (zno S n) (mse m)) (mix m) ≤ (nlg (zno S n)).length := by
  have a := I.2.2.1 n hn
  obtain ⟨⟨m1, m2, m3⟩, -, -, -, m4, -⟩ := M
  obtain ⟨l1, l2, l3, l4⟩ := a.2.2.2.2.1 q1
  have hix := (m4 hk p).2
  rw [q2] at hix
  have hmx : max (nmt (zno S n) (mse m)) (mix m) ≤ hak h (ntm (zno S n)) (mse m) := Nat.max_le.mpr ⟨(l4 _ m1).1, hix⟩
  have hle := (I.2.1.2.2.2.2.2.1 (ntm (zno S n)) (mse m)).1
  rw [← l2] at hle
  refine ⟨I.node (sqNI.same a rfl rfl rfl ⟨Nat.le_refl _, a.2.2.2.1.1⟩ (Nat.le_refl _) (fun r => ⟨r, fun u hu => ?_⟩) (fun r => ⟨r, (a.2.2.2.2.2 r).2.2.2⟩)), Nat.le_trans hmx hle⟩
  show sqU1 (nmt (zno S n)) (mse m) _ u ≤ _ ∧ 1 ≤ sqU1 (nnx (zno S n)) (mse m) _ u ∧ sqU1 (nnx (zno S n)) (mse m) _ u ≤ _
  by_cases hu2 : u = mse m
  · rw [hu2, sqU1_at, sqU1_at]
    exact ⟨hmx, Nat.succ_le_succ (Nat.zero_le _), Nat.succ_le_succ (Nat.le_trans hmx hle)⟩
  · rw [sqU1_ne hu2, sqU1_ne hu2]; exact l4 u hu
theorem LN.an (b : LN B ti g n N) (u x t : Nat) (ht : t ≤ ti) (hu : u < 5) : LN B ti g n (nAn N u x (max (nec N u) (t : Int))) := by
  refine ⟨b.1, b.2.1, b.2.2.1, b.2.2.2.1, b.2.2.2.2.1, b.2.2.2.2.2.1, fun r w hw => ?_⟩
  have c := b.2.2.2.2.2.2 r
  show -1 ≤ sqU1 (nec N) u _ w ∧ sqU1 (nec N) u _ w ≤ (ti : Int)
  by_cases hwu : w = u
  · rw [hwu, sqU1_at]
    have := c u hu
    omega
  · rw [sqU1_ne hwu]; exact c w hw
theorem LI.ans (a : LI B S) (I : zI h S) (hn : n < 5) (M : sqMI h m) (L : LM B (zti S) m) (hk : mki m = 3) (hse : mse m ≠ n) : LI (B + 2) (zAns S n m) ∧ zti (zAns S n m) = zti S := by
  unfold zAns
  by_cases q : nro (zno S n) = 2 ∧ mtm m = ntm (zno S n)
  · rw [if_pos q]
    obtain ⟨q1, q2⟩ := q
    by_cases p : mfl m = 1
    · rw [if_pos p]
      obtain ⟨I1, -⟩ := I.an1 hn M hk q1 q2 p (max (nec (zno S n) (mse m)) (mto m : Int))
      have a1 := a.ndx hn rfl ((a.2.2.2.1 n hn).an (mse m) (max (nmt (zno S n) (mse m)) (mix m)) (mto m) L.2.2.2.2.2.1 M.1.1) (Nat.le_refl B)
      obtain ⟨c1, c2, -⟩ := a1.com hn (I1.G hn) (by rw [zN_at]; exact q1)
      exact ⟨c1.up (by omega), c2⟩
    · rw [if_neg p]
      have hb := zCmx_bd I hn
      have hx := ((I.2.2.1 n hn).2.2.2.2.1 q1).2.2.2 (mse m) M.1.1
      have a1 := a.ndx hn rfl (N' := nNx (zno S n) (mse m) (max 1 (min (nnx (zno S n) (mse m) - 1) (mix m + 1)))) (a.2.2.2.1 n hn) (Nat.le_refl B)
      refine ⟨(a1.snd hn hse ?_).up (by omega), zSnd_ti _ _ _⟩
      rw [zN_at]
      refine ⟨hb.1, hb.2.1, ?_⟩
      show sqU1 (nnx (zno S n)) (mse m) _ (mse m) ≤ (nlg (zno S n)).length + 1
      rw [sqU1_at]
      omega
  · rw [if_neg q]; exact ⟨a.up (by omega), rfl⟩
theorem LN.lg (b : LN B ti g n N) (hr : nro N = 0) {l : List sqE} (h1 : LL B l) (h2 : l.length ≤ B) (c s : Nat) : LN B ti g n (nCm (nBs (nLg N l) s) c) ∧ LN B ti g n (nCm (nLg N l) c) := by
  refine ⟨⟨b.1, h2, h1, b.2.2.2.1, b.2.2.2.2.1, fun r => ?_, b.2.2.2.2.2.2⟩, ⟨b.1, h2, h1, b.2.2.2.1, b.2.2.2.2.1, fun r => ?_, b.2.2.2.2.2.2⟩⟩
  · have r' : nro N = 1 := r
    rw [hr] at r'; cases r'
  · have r' : nro N = 1 := r
    rw [hr] at r'; cases r'
theorem LI.okx (a : LI B S) (hn : n < 5) (L : LM B (zti S) m) (hse : mse m ≠ n) {N' : sqN} (hN : LN B (zti S) (zg S) n N') {k : Nat} {x : Int32} {ix : Nat} (hB : 1 ≤ B) (hi : ix ≤ B) : LI B (zOk (zS (zN S n N') k x) n m 1 ix) ∧ zti (zOk (zS (zN S n N') k x) n m 1 ix) = zti S := by
  have a1 : LI B (zS (zN S n N') k x) := LI.stat (a.node hN)
  exact a1.ok L hn hse (Nat.le_refl _) hB hi
theorem LI.app (a : LI B S) (hn : n < 5) (L : LM B (zti S) m) (hk : mki m = 2) (hr : nro (zno S n) = 0) (hse : mse m ≠ n) (hB : 1 ≤ B) : LI B (zApp S n m) ∧ zti (zApp S n m) = zti S := by
  have b := a.2.2.2.1 n hn
  unfold zApp
  by_cases q : (nlg (zno S n)).length < mix m ∨ (nbs (zno S n) < mix m ∧ sqTT (nlg (zno S n)) (mix m) ≠ mbf m)
  · rw [if_pos q]
    refine a.ok L hn hse (Nat.zero_le _) hB ?_
    have := b.2.1
    omega
  · rw [if_neg q]
    obtain ⟨c1, c2, c3⟩ := sqTake_bd (nbs (zno S n)) (mes m) (nlg (zno S n)) (mix m) L.2.2.2.2.2.2.2.2.1 b.2.2.1 b.2.1 (L.2.2.1 hk)
    generalize sqTake (nbs (zno S n)) (mes m) (nlg (zno S n)) (mix m) = r at c1 c2 c3
    exact a.okx hn L hse (b.lg hr c1 c2 _ 0).2 hB c3
theorem LI.ins (a : LI B S) (I : zI h S) (hn : n < 5) (L : LM B (zti S) m) (hr : nro (zno S n) = 0) (hse : mse m ≠ n) (hB : 1 ≤ B) : LI B (zIns S n m) ∧ zti (zIns S n m) = zti S := by
  have b := a.2.2.2.1 n hn
  have hb := zCmx_bd I hn
  unfold zIns
  by_cases q : ncm (zno S n) < mix m
  · rw [if_pos q]
    have hl : LL B (if mix m ≤ (nlg (zno S n)).length ∧ sqTT (nlg (zno S n)) (mix m) = mfl m then nlg (zno S n) else mes m) ∧ (if mix m ≤ (nlg (zno S n)).length ∧ sqTT (nlg (zno S n)) (mix m) = mfl m then nlg (zno S n) else mes m).length ≤ B := by
      by_cases z : mix m ≤ (nlg (zno S n)).length ∧ sqTT (nlg (zno S n)) (mix m) = mfl m
      · rw [if_pos z]; exact ⟨b.2.2.1, b.2.1⟩
      · rw [if_neg z]; exact ⟨L.2.2.2.2.2.2.2.2.1, L.2.2.2.1⟩
    generalize (if mix m ≤ (nlg (zno S n)).length ∧ sqTT (nlg (zno S n)) (mix m) = mfl m then nlg (zno S n) else mes m) = l at hl
    exact a.okx hn L hse (b.lg hr hl.1 hl.2 _ _).1 hB L.2.1
  · rw [if_neg q]
    exact a.ok L hn hse (Nat.le_refl _) hB (Nat.le_trans hb.1 b.2.1)
theorem LI.bmp (a : LI B S) (hn : n < 5) {T : Nat} (hT : T ≤ B) : LI B (zBmp S n T) ∧ zti (zBmp S n T) = zti S := by
  have b := a.2.2.2.1 n hn
  unfold zBmp
  by_cases q : ntm (zno S n) < T
  · rw [if_pos q]
    exact ⟨a.ndx hn rfl (N' := nBm (zno S n) T) ⟨hT, b.2.1, b.2.2.1, Nat.zero_le _, fun r => absurd rfl r, fun r => (by cases r), fun r => (by cases r)⟩ (Nat.le_refl _), rfl⟩
  · rw [if_neg q]; exact ⟨a, rfl⟩
theorem LI.fo (a : LI B S) (hn : n < 5) (x : Int32) {S1 : sqSt} (e : S1 = zN S n (nTi (nRo (zno S n) 0) x)) : LI B S1 ∧ zti S1 = zti S := by
  have b := a.2.2.2.1 n hn
  exact ⟨a.ndx hn e (b.fo x) (Nat.le_refl _), by rw [e]; rfl⟩
theorem LI.ldr (a : LI B S) (I : zI h S) (hn : n < 5) (M : sqMI h m) (L : LM B (zti S) m) (hse : mse m ≠ n) (hB : 1 ≤ B) : LI B (zLdr S n m) ∧ zti (zLdr S n m) = zti S := by
  unfold zLdr
  by_cases q : mtm m < ntm (zno S n)
  · rw [if_pos q]; exact a.ok L hn hse (Nat.zero_le _) hB (Nat.zero_le _)
  · rw [if_neg q]
    obtain ⟨I1, e1, e2⟩ := I.ldr1 hn (zTim S n (ntm (zno S n))) rfl
    obtain ⟨a1, e3⟩ := a.fo hn (zTim S n (ntm (zno S n))) rfl
    have L1 : LM B (zti (zN S n (nTi (nRo (zno S n) 0) (zTim S n (ntm (zno S n)))))) m := by rw [e3]; exact L
    by_cases p : mki m = 2
    · rw [if_pos p]
      obtain ⟨c1, c2⟩ := a1.app hn L1 p e1 hse hB
      exact ⟨c1, c2.trans e3⟩
    · rw [if_neg p]
      obtain ⟨c1, c2⟩ := a1.ins I1 hn L1 e1 hse hB
      exact ⟨c1, c2.trans e3⟩
theorem LI.rcv (a : LI B S) (I : zI h S) (M : sqMI h m) (L : LM B (zti S) m) (hB : 1 ≤ B) : LI (B + 2) (zRcv S m) ∧ zti (zRcv S m) = zti S := by
  have hn := M.1.2.1
  have hse : mse m ≠ mre m := L.2.2.2.2.2.2.2.2.2.2.2.2.2
  obtain ⟨I1, ht⟩ := I.bmp hn (mtm m)
  obtain ⟨a1, e1⟩ := a.bmp hn L.1
  have L1 : LM B (zti (zBmp S (mre m) (mtm m))) m := by rw [e1]; exact L
  unfold zRcv
  by_cases q0 : nup (zno S (mre m)) = false
  · rw [if_pos q0]; exact ⟨LI.stat (a.up (by omega)), rfl⟩
  · rw [if_neg q0]
    by_cases q1 : mki m = 0
    · rw [if_pos q1]
      obtain ⟨c1, c2⟩ := a1.req hn hse hB
      exact ⟨c1.up (by omega), c2.trans e1⟩
    · rw [if_neg q1]
      by_cases q2 : mki m = 1
      · rw [if_pos q2]
        obtain ⟨c1, c2⟩ := a1.rep I1 hn M q2 rfl
        exact ⟨c1, c2.trans e1⟩
      · rw [if_neg q2]
        by_cases q3 : mki m = 3
        · rw [if_pos q3]
          obtain ⟨c1, c2⟩ := a1.ans I1 hn M L1 q3 hse
          exact ⟨c1, c2.trans e1⟩
        · rw [if_neg q3]
          obtain ⟨c1, c2⟩ := a1.ldr I1 hn M L1 hse hB
          exact ⟨c1.up (by omega), c2.trans e1⟩
theorem LI.del (a : LI B S) (w : Nat) : LI B (zDel S w) := ⟨a.1, a.2.1, a.2.2.1, a.2.2.2.1, fun m hm => a.2.2.2.2.1 m (List.mem_of_mem_eraseIdx hm), Nat.le_trans (List.length_eraseIdx_le _ _) a.2.2.2.2.2⟩
theorem LI.cnt (a : LI B S) (I : zI h S) (hn : n < 5) : LI (B + 3) (zCnt S n) ∧ zti (zCnt S n) = zti S := by
  have b := a.2.2.2.1 n hn
  have a0 := I.2.2.1 n hn
  have i1 : ∀ x, zI h (zN S n (nTi (zno S n) x)) := fun x => I.node (sqNI.same a0 rfl rfl rfl ⟨Nat.le_refl _, a0.2.2.2.1.1⟩ (Nat.le_refl _) (fun r => ⟨r, (a0.2.2.2.2.1 r).2.2.2⟩) (fun r => ⟨r, (a0.2.2.2.2.2 r).2.2.2⟩))
  have l1 : ∀ x, LI B (zN S n (nTi (zno S n) x)) := fun x => a.node b
  unfold zCnt
  by_cases q : nup (zno S n) = true ∧ (nro (zno S n) = 2 ∨ zmem S (zno S n) n = true)
  · rw [if_pos q]
    by_cases q1 : nti (zno S n) - 1 = 0
    · rw [if_pos q1]
      by_cases q2 : nro (zno S n) = 2
      · rw [if_pos q2]
        have hb := zCmx_bd I hn
        have hx := ((I.2.2.1 n hn).2.2.2.2.1 q2).2.2.2
        have := (l1 3).all hn (by rw [zN_at]; exact ⟨hb.1, hb.2.1, fun i hi => (hx i hi).2.2⟩)
        exact ⟨this.1.up (by omega), this.2⟩
      · rw [if_neg q2]
        refine (l1 _).stand (i1 _) hn ?_ ?_
        · rw [zN_at]; exact q.1
        · rw [zN_at]; exact q.2.resolve_left q2
    · rw [if_neg q1]
      exact ⟨(l1 _).up (by omega), rfl⟩
  · rw [if_neg q]; exact ⟨a.up (by omega), rfl⟩
end SqLI3
/-- all that holds between the doings: safety and bounds -/
def zIL (B : Nat) (S : sqSt) : Prop := (∃ h, zI h S) ∧ LI B S
theorem zIL.dlv : ∀ (k w B : Nat) (S : sqSt), 1 ≤ B → zIL B S → zIL (B + 2 * k) (zDlv k w S) ∧ zti (zDlv k w S) = zti S := by
  intro k
  induction k with
  | zero => intro w B S _ I; exact ⟨I, rfl⟩
  | succ k ih =>
    intro w B S hB I
    unfold zDlv
    cases hm : (zms S)[w]? with
    | none => exact ⟨⟨I.1, I.2.up (by omega)⟩, rfl⟩
    | some m =>
      show zIL (B + 2 * (k + 1)) (if mdu m ≤ zti S then zDlv k w (zRcv (zDel S w) m) else zDlv k (w + 1) S) ∧ zti (if mdu m ≤ zti S then zDlv k w (zRcv (zDel S w) m) else zDlv k (w + 1) S) = zti S
      have hmem := List.mem_of_getElem? hm
      by_cases q : mdu m ≤ zti S
      · rw [if_pos q]
        obtain ⟨⟨h, I0⟩, L0⟩ := I
        have M := I0.2.2.2 m hmem
        have L := L0.2.2.2.2.1 m hmem
        obtain ⟨c1, c2⟩ := (L0.del w).rcv (I0.del w) M L hB
        obtain ⟨d1, d2⟩ := ih w (B + 2) _ (by omega) ⟨(I0.del w).rcv M, c1⟩
        refine ⟨⟨d1.1, d1.2.up (by omega)⟩, d2.trans c2⟩
      · rw [if_neg q]
        obtain ⟨d1, d2⟩ := ih (w + 1) B S hB I
        exact ⟨⟨d1.1, d1.2.up (by omega)⟩, d2⟩
theorem zIL.time {B : Nat} {S : sqSt} (I : zIL B S) : zIL (B + 1) (zTi S (zti S + 1)) := by
  obtain ⟨⟨h, I0⟩, L0⟩ := I
  refine ⟨⟨h, I0⟩, ?_⟩
  obtain ⟨b1, b2, b3, b4, b5, b6⟩ := L0.up (Nat.le_succ B)
  refine ⟨by show zti S + 1 ≤ B + 1; have := L0.1; omega, b2, b3, fun n hn => ?_, fun m hm => ?_, b6⟩
  · obtain ⟨c1, c2, c3, c4, c5, c6, c7⟩ := b4 n hn
    refine ⟨c1, c2, c3, c4, c5, c6, fun r u hu => ?_⟩
    have := c7 r u hu
    refine ⟨this.1, ?_⟩
    show nec (zno S n) u ≤ ((zti S + 1 : Nat) : Int)
    omega
  · obtain ⟨c1, c2, c3, c4, c5, c6, c7, c8, c9, c10, c11, c12⟩ := b5 m hm
    exact ⟨c1, c2, c3, c4, c5, Nat.le_succ_of_le c6, c7, c8, c9, c10, by show mdu m ≤ zti S + 1 + 5; omega, c12⟩
theorem zIL.tick1 {B : Nat} {S : sqSt} (I : zIL B S) : zIL (B + 96) (zTick1 S) ∧ zti (zTick1 S) = zti S + 1 := by
  obtain ⟨d1, d2⟩ := zIL.dlv (zms S).length 0 (B + 1) _ (by omega) I.time
  have key : ∀ (l : List Nat) (B : Nat) (S : sqSt), (∀ i, i ∈ l → i < 5) → zIL B S → zIL (B + 3 * l.length) (l.foldl zCnt S) ∧ zti (l.foldl zCnt S) = zti S := by
    intro l
    induction l with
    | nil => intro B S _ I; exact ⟨I, rfl⟩
    | cons a l ih =>
      intro B S hl I
      obtain ⟨⟨h, I0⟩, L0⟩ := I
      obtain ⟨c1, c2⟩ := L0.cnt I0 (hl a List.mem_cons_self)
      obtain ⟨e1, e2⟩ := ih (B + 3) _ (fun i hi => hl i (List.mem_cons_of_mem _ hi)) ⟨I0.cnt (hl a List.mem_cons_self), c1⟩
      refine ⟨⟨e1.1, e1.2.up ?_⟩, e2.trans c2⟩
      rw [List.length_cons]; omega
  obtain ⟨f1, f2⟩ := key (List.range 5) _ _ (fun i hi => List.mem_range.mp hi) d1
  have hl := I.2.2.2.2.2.2
  have h5 : (List.range 5).length = 5 := rfl
  exact ⟨⟨f1.1, f1.2.up (by omega)⟩, f2.trans d2⟩
theorem zIL.tick : ∀ (k B : Nat) (S : sqSt), zIL B S → zIL (B + 96 * k) (zTick k S) ∧ zti (zTick k S) = zti S + k := by
  intro k
  induction k with
  | zero => intro B S I; exact ⟨I, rfl⟩
  | succ k ih =>
    intro B S I
    obtain ⟨c1, c2⟩ := I.tick1
    obtain ⟨d1, d2⟩ := ih _ _ c1
    refine ⟨⟨d1.1, d1.2.up (by omega)⟩, ?_⟩
    show zti (zTick k (zTick1 S)) = _
    rw [d2, c2]; omega
