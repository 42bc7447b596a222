/-! Safety goes on to hold: standing, receiving, ticks, calls. -/
section ZI2
variable {h h' : sqH} {S : sqSt} {n t : Nat} {N : sqN} {m : sqMs}
theorem zI.ask (I : zI h S) (hn : n < 5) (hc : nlg (zno S n) = hcl h (ntm (zno S n)) n) (hv : hvt h (ntm (zno S n)) n = some n) : zI h (zAsk S n) ∧ zno (zAsk S n) = zno S ∧ zg (zAsk S n) = zg S := by
  have key : ∀ (l : List Nat) (S : sqSt), (∀ i, i ∈ l → i < 5) → zI h S → nlg (zno S n) = hcl h (ntm (zno S n)) n → hvt h (ntm (zno S n)) n = some n → zI h (l.foldl (fun S i => if i ≠ n ∧ zmem S (zno S n) i = true then zPost S (0, n, i, ntm (zno S n), zti S + zde S, (nlg (zno S n)).length, sqTT (nlg (zno S n)) (nlg (zno S n)).length, zti S, 0, 0, []) else S) S) ∧ zno (l.foldl (fun S i => if i ≠ n ∧ zmem S (zno S n) i = true then zPost S (0, n, i, ntm (zno S n), zti S + zde S, (nlg (zno S n)).length, sqTT (nlg (zno S n)) (nlg (zno S n)).length, zti S, 0, 0, []) else S) S) = zno S ∧ zg (l.foldl (fun S i => if i ≠ n ∧ zmem S (zno S n) i = true then zPost S (0, n, i, ntm (zno S n), zti S + zde S, (nlg (zno S n)).length, sqTT (nlg (zno S n)) (nlg (zno S n)).length, zti S, 0, 0, []) else S) S) = zg S := by
    intro l
    induction l with
    | nil => intro S _ I _ _; exact ⟨I, rfl, rfl⟩
    | cons a l ih =>
      intro S hl I hc hv
      rw [List.foldl_cons]
      by_cases q : a ≠ n ∧ zmem S (zno S n) a = true
      · rw [if_pos q]
        have e := zPost_no S (0, n, a, ntm (zno S n), zti S + zde S, (nlg (zno S n)).length, sqTT (nlg (zno S n)) (nlg (zno S n)).length, zti S, 0, 0, [])
        have e' := zPost_g S (0, n, a, ntm (zno S n), zti S + zde S, (nlg (zno S n)).length, sqTT (nlg (zno S n)) (nlg (zno S n)).length, zti S, 0, 0, [])
        have I1 : zI h (zPost S (0, n, a, ntm (zno S n), zti S + zde S, (nlg (zno S n)).length, sqTT (nlg (zno S n)) (nlg (zno S n)).length, zti S, 0, 0, [])) := by
          refine I.post ⟨⟨hn, hl a List.mem_cons_self, by show 0 ≤ 4; decide⟩, fun _ => ⟨?_, ?_, hv⟩, fun r => (by cases r), fun r => (by cases r), fun r => (by cases r), fun r => (by cases r)⟩
          · show (nlg (zno S n)).length = (hcl h (ntm (zno S n)) n).length
            rw [hc]
          · show sqTT (nlg (zno S n)) (nlg (zno S n)).length = sqTT (hcl h (ntm (zno S n)) n) (hcl h (ntm (zno S n)) n).length
            rw [hc]
        obtain ⟨r1, r2, r3⟩ := ih _ (fun i hi => hl i (List.mem_cons_of_mem _ hi)) I1 (by rw [e]; exact hc) (by rw [e]; exact hv)
        exact ⟨r1, r2.trans e, r3.trans e'⟩
      · rw [if_neg q]
        exact ih S (fun i hi => hl i (List.mem_cons_of_mem _ hi)) I hc hv
  exact key (List.range 5) S (fun i hi => List.mem_range.mp hi) I hc hv
theorem zI.stand1 (I : zI h S) (hn : n < 5) (x : Int32) : ∃ h1, zI h1 (zN S n (nStand (zno S n) n x)) ∧ nlg (zno S n) = hcl h1 (ntm (zno S n) + 1) n ∧ hvt h1 (ntm (zno S n) + 1) n = some n := by
  have a := I.2.2.1 n hn
  obtain ⟨b1, b2, b3⟩ := sq_stand (N' := nStand (zno S n) n x) I.2.1 a rfl rfl rfl rfl rfl rfl (fun u hu => by
    have : (u == n) = true := hu
    exact beq_iff_eq.mp this)
  have I1 := I.grow b1 b2 b3
  obtain ⟨k1, k2, -, -⟩ := b3.2.2.2.2.2 rfl
  exact ⟨_, I1, k1, k2⟩
theorem zN_g (S : sqSt) (n : Nat) (N : sqN) : zg (zN S n N) = zg S := rfl
theorem zS_no (S : sqSt) (k : Nat) (x : Int32) : zno (zS S k x) = zno S := rfl
theorem zS_g (S : sqSt) (k : Nat) (x : Int32) : zg (zS S k x) = zg S := rfl
theorem zI.stand2 (I : zI h S) (hn : n < 5) (x : Int32) {S1 : sqSt} (e : S1 = zN S n (nStand (zno S n) n x)) : (∃ h', zI h' (zAsk S1 n)) ∧ (sqQb (zc S (zno S n)) (fun u => u == n) = true → ∃ h', zI h' (zWin (zAsk S1 n) n)) := by
  obtain ⟨h1, I1, k1, k2⟩ := I.stand1 hn x
  rw [← e] at I1
  have e1 : zno S1 n = nStand (zno S n) n x := by rw [e]; exact zN_at _ _ _
  have e0 : zg S1 = zg S := by rw [e]; exact zN_g _ _ _
  obtain ⟨I2, e2, e3⟩ := I1.ask hn (by rw [e1]; exact k1) (by rw [e1]; exact k2)
  refine ⟨⟨h1, I2⟩, fun q => I2.win hn ?_ ?_⟩
  · rw [e2, e1]; rfl
  · unfold zc at q ⊢
    rw [e2, e3, e1, e0]
    exact q
theorem zI.stand (I : zI h S) (hn : n < 5) : ∃ h', zI h' (zStand S n) := by
  have I0 : zI h (zS S 3 1) := I.stat
  obtain ⟨p1, p2⟩ := I0.stand2 hn (zTim S n (ntm (zno S n) + 1)) rfl
  unfold zStand
  by_cases q : sqQb (zc S (zno S n)) (fun u => u == n) = true
  · rw [if_pos q]
    exact p2 q
  · rw [if_neg q]
    exact p1
theorem zI.rep (I : zI h S) (hn : n < 5) (M : sqMI h m) (hk : mki m = 1) (hre : mre m = n) : ∃ h', zI h' (zRep S n m) := by
  unfold zRep
  by_cases q : nro (zno S n) = 1 ∧ mtm m = ntm (zno S n) ∧ mfl m = 1
  · rw [if_pos q]
    obtain ⟨q1, q2, q3⟩ := q
    have a := I.2.2.1 n hn
    have hv := M.2.2.1 hk q3
    rw [hre, q2] at hv
    have a1 : sqNI h n (nVs (zno S n) (fun u => nvs (zno S n) u || u == mse m)) := sqNI.same a rfl rfl rfl ⟨Nat.le_refl _, a.2.2.2.1.1⟩ (Nat.le_refl _) (fun r => ⟨r, (a.2.2.2.2.1 r).2.2.2⟩) (fun r => ⟨r, fun u hu hw => by
      have hw' : (nvs (zno S n) u || u == mse m) = true := hw
      rw [Bool.or_eq_true] at hw'
      rcases hw' with w | w
      · exact (a.2.2.2.2.2 r).2.2.2 u hu w
      · rw [beq_iff_eq.mp w]; exact hv⟩)
    have I1 : zI h (zVs S n m) := I.node a1
    by_cases p : sqQb (zc S (zno S n)) (fun u => nvs (zno S n) u || u == mse m) = true
    · rw [if_pos p]
      refine I1.win hn ?_ ?_
      · unfold zVs; rw [zN_at]; exact q1
      · unfold zVs zc
        rw [zN_at]
        exact p
    · rw [if_neg p]; exact ⟨h, I1⟩
  · rw [if_neg q]; exact ⟨h, I⟩
end ZI2
