/-! Safety goes on to hold: receiving, ticks, calls. -/
section ZI2
variable {h h' : sqH} {S : sqSt} {n t : Nat} {N : sqN} {m : sqMs}
theorem zI.bmp (I : zI h S) (hn : n < 5) (T : Nat) : zI h (zBmp S n T) ∧ T ≤ ntm (zno (zBmp S n T) n) := by
  unfold zBmp
  by_cases q : ntm (zno S n) < T
  · rw [if_pos q]
    refine ⟨I.node (sqNI.bump (I.2.2.1 n hn) q rfl rfl rfl rfl rfl), ?_⟩
    rw [zN_at]
    exact Nat.le_refl _
  · rw [if_neg q]; exact ⟨I, Nat.le_of_not_lt q⟩
theorem zI.ldr1 (I : zI h S) (hn : n < 5) (x : Int32) {S1 : sqSt} (e : S1 = zN S n (nTi (nRo (zno S n) 0) x)) : zI h S1 ∧ nro (zno S1 n) = 0 ∧ ntm (zno S1 n) = ntm (zno S n) := by
  have a := I.2.2.1 n hn
  have a1 : sqNI h n (nTi (nRo (zno S n) 0) x) := sqNI.same a rfl rfl rfl ⟨Nat.le_refl _, a.2.2.2.1.1⟩ (Nat.le_refl _) (fun q => (by cases q)) (fun q => (by cases q))
  have I1 := I.node a1
  rw [← e] at I1
  have e1 : zno S1 n = nTi (nRo (zno S n) 0) x := by rw [e]; exact zN_at _ _ _
  exact ⟨I1, by rw [e1]; rfl, by rw [e1]; rfl⟩
theorem zI.ldr (I : zI h S) (hn : n < 5) (M : sqMI h m) (hk : mki m = 2 ∨ mki m = 4) (ht : mtm m ≤ ntm (zno S n)) : ∃ h', zI h' (zLdr S n m) := by
  unfold zLdr
  by_cases q : mtm m < ntm (zno S n)
  · rw [if_pos q]; exact ⟨h, I.ok hn M.1.1 (fun r => by cases r)⟩
  · rw [if_neg q]
    have ht' : mtm m = ntm (zno S n) := Nat.le_antisymm ht (Nat.le_of_not_lt q)
    obtain ⟨I1, e1, e2⟩ := I.ldr1 hn (zTim S n (ntm (zno S n))) rfl
    rw [← e2] at ht'
    by_cases p : mki m = 2
    · rw [if_pos p]
      exact I1.app hn M p e1 ht'
    · rw [if_neg p]
      exact I1.ins hn M (hk.resolve_left p) e1 ht'
theorem zI.rcv (I : zI h S) (M : sqMI h m) : ∃ h', zI h' (zRcv S m) := by
  have hn := M.1.2.1
  obtain ⟨I1, ht⟩ := I.bmp hn (mtm m)
  unfold zRcv
  by_cases q0 : nup (zno S (mre m)) = false
  · rw [if_pos q0]; exact ⟨h, I⟩
  · rw [if_neg q0]
    by_cases q1 : mki m = 0
    · rw [if_pos q1]; exact I1.req hn M q1
    · rw [if_neg q1]
      by_cases q2 : mki m = 1
      · rw [if_pos q2]; exact I1.rep hn M q2 rfl
      · rw [if_neg q2]
        by_cases q3 : mki m = 3
        · rw [if_pos q3]; exact I1.ans hn M q3
        · rw [if_neg q3]
          exact I1.ldr hn M (by have := M.1.2.2; omega) ht
theorem zI.del (I : zI h S) (w : Nat) : zI h (zDel S w) := ⟨I.1, I.2.1, I.2.2.1, fun m hm => I.2.2.2 m (List.mem_of_mem_eraseIdx hm)⟩
theorem zI.dlv : ∀ (k w : Nat) (S : sqSt) (h : sqH), zI h S → ∃ h', zI h' (zDlv k w S) := by
  intro k
  induction k with
  | zero => intro w S h I; exact ⟨h, I⟩
  | succ k ih =>
    intro w S h I
    unfold zDlv
    cases hm : (zms S)[w]? with
    | none => exact ⟨h, I⟩
    | some m =>
      show ∃ h', zI h' (if mdu m ≤ zti S then zDlv k w (zRcv (zDel S w) m) else zDlv k (w + 1) S)
      by_cases q : mdu m ≤ zti S
      · rw [if_pos q]
        obtain ⟨h1, I1⟩ := (I.del w).rcv (I.2.2.2 m (List.mem_of_getElem? hm))
        exact ih w _ h1 I1
      · rw [if_neg q]
        exact ih (w + 1) S h I
theorem zI.cnt (I : zI h S) (hn : n < 5) : ∃ h', zI h' (zCnt S n) := by
  have a := I.2.2.1 n hn
  have a1 : ∀ x, sqNI h n (nTi (zno S n) x) := fun x => sqNI.same a rfl rfl rfl ⟨Nat.le_refl _, a.2.2.2.1.1⟩ (Nat.le_refl _) (fun r => ⟨r, (a.2.2.2.2.1 r).2.2.2⟩) (fun r => ⟨r, (a.2.2.2.2.2 r).2.2.2⟩)
  unfold zCnt
  by_cases q : nup (zno S n) = true ∧ (nro (zno S n) = 2 ∨ zmem S (zno S n) n = true)
  · rw [if_pos q]
    by_cases q1 : nti (zno S n) - 1 = 0
    · rw [if_pos q1]
      by_cases q2 : nro (zno S n) = 2
      · rw [if_pos q2]
        exact ⟨h, ((I.node (a1 3)).all hn (by rw [zN_at]; exact sqNI.ld (a1 3) q2)).1⟩
      · rw [if_neg q2]
        exact (I.node (a1 _)).stand hn
    · rw [if_neg q1]
      exact ⟨h, I.node (a1 _)⟩
  · rw [if_neg q]; exact ⟨h, I⟩
theorem zI.tick1 (I : zI h S) : ∃ h', zI h' (zTick1 S) := by
  obtain ⟨h1, I1⟩ := zI.dlv (zms S).length 0 (zTi S (zti S + 1)) h I
  have key : ∀ (l : List Nat) (S : sqSt) (h : sqH), (∀ i, i ∈ l → i < 5) → zI h S → ∃ h', zI h' (l.foldl zCnt S) := by
    intro l
    induction l with
    | nil => intro S h _ I; exact ⟨h, I⟩
    | cons a l ih =>
      intro S h hl I
      obtain ⟨h2, I2⟩ := I.cnt (hl a List.mem_cons_self)
      exact ih _ h2 (fun i hi => hl i (List.mem_cons_of_mem _ hi)) I2
  exact key (List.range 5) _ h1 (fun i hi => List.mem_range.mp hi) I1
end ZI2
theorem zI.tick : ∀ (k : Nat) (S : sqSt) (h : sqH), zI h S → ∃ h', zI h' (zTick k S) := by
  intro k
  induction k with
  | zero => intro S h I; exact ⟨h, I⟩
  | succ k ih =>
    intro S h I
    obtain ⟨h1, I1⟩ := I.tick1
    exact ih _ h1 I1
theorem zI.crash {h : sqH} {S : sqSt} {n : Nat} (I : zI h S) (hn : n < 5) : zI h (zCrash S n) := by
  have a := I.2.2.1 n hn
  exact I.node (sqNI.same a rfl rfl rfl ⟨Nat.le_refl _, a.2.2.2.1.1⟩ (Nat.le_refl _) (fun q => (by cases q)) (fun q => (by cases q)))
theorem zI.back1 {h : sqH} {S : sqSt} {n : Nat} (I : zI h S) (hn : n < 5) (hr : nro (zno S n) = 0) (x : Int32) : zI h (zN S n (nTi (nCm (nUp (zno S n) true) (nbs (zno S n))) x)) := by
  have a := I.2.2.1 n hn
  exact I.node (sqNI.same a rfl rfl rfl ⟨Nat.le_refl _, Nat.le_refl _⟩ a.2.2.2.1.1 (fun q => by
    have q' : nro (zno S n) = 2 := q
    rw [hr] at q'; cases q') (fun q => by
    have q' : nro (zno S n) = 1 := q
    rw [hr] at q'; cases q'))
theorem zI.back {h : sqH} {S : sqSt} {n : Nat} (I : zI h S) (hn : n < 5) (hr : nro (zno S n) = 0) : zI h (zBack S n) := I.back1 hn hr _
theorem zI.pack {h : sqH} {S : sqSt} {n : Nat} (I : zI h S) (hn : n < 5) : zI h (zPack S n) := by
  have a := I.2.2.1 n hn
  exact I.node (sqNI.same a rfl rfl rfl ⟨a.2.2.2.1.1, Nat.le_refl _⟩ (Nat.le_refl _) (fun r => ⟨r, (a.2.2.2.2.1 r).2.2.2⟩) (fun r => ⟨r, (a.2.2.2.2.2 r).2.2.2⟩))
theorem zI.sub {h : sqH} {S : sqSt} {n k : Nat} {v : Int32} (I : zI h S) (hn : n < 5) (hr : nro (zno S n) = 2) (hl : (nlg (zno S n)).length < nbs (zno S n) + 24) (hc : ∀ c, sqC (ntm (zno S n), k, v) = some c → sqG c ∧ sqJ (zc S (zno S n)) c ∧ sqCI (nlg (zno S n)) ≤ ncm (zno S n)) : ∃ h', zI h' (zSub S n k v) := by
  have a := I.2.2.1 n hn
  obtain ⟨c1, c2, c3⟩ := sq_app (N' := nLg (zno S n) (nlg (zno S n) ++ [(ntm (zno S n), k, v)])) I.2.1 a hr (e := (ntm (zno S n), k, v)) rfl (fun c q => by
    obtain ⟨g1, g2, g3⟩ := hc c q
    refine ⟨g1, by rw [I.1]; exact g2, fun j' e' hj hc' => Nat.lt_of_lt_of_le (sqCI_lt _ j' e' hj hc') g3⟩) rfl rfl rfl rfl rfl hr rfl rfl hl
  have I2 := I.grow c1 c2 c3
  obtain ⟨h3, I3, -⟩ := zI.com (S := zAdd S n k v) I2 hn (by unfold zAdd; rw [zN_at]; exact hr)
  exact ⟨h3, I3⟩
