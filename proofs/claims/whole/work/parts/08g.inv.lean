/-! Safety goes on to hold through every doing of the simulation. -/
def zI (h : sqH) (S : sqSt) : Prop := hg0 h = zg S ∧ sqI h ∧ (∀ v, v < 5 → sqNI h v (zno S v)) ∧ ∀ m, m ∈ zms S → sqMI h m
/-- what a node that was elected in its term can send -/
def sqLd (h : sqH) (n : Nat) (N : sqN) : Prop := hel h (ntm N) = some n ∧ nlg N = hLg h (ntm N) ∧ ∀ u, u < 5 → 1 ≤ nnx N u ∧ nnx N u ≤ (nlg N).length + 1
section ZI
variable {h h' : sqH} {S : sqSt} {n t : Nat} {N : sqN}
theorem zI.stat (I : zI h S) {k : Nat} {x : Int32} : zI h (zS S k x) := I
theorem zI.wins (I : zI h S) {k : Nat} {x : Int32} : zI h (zW S k x) := I
theorem zI.post (I : zI h S) {m : sqMs} (M : sqMI h m) : zI h (zPost S m) := by
  unfold zPost
  by_cases q : zcu S (mse m) (mre m) = true ∨ 40 ≤ (zms S).length
  · rw [if_pos q]; exact I
  · rw [if_neg q]
    refine ⟨I.1, I.2.1, I.2.2.1, fun m' hm => ?_⟩
    rcases List.mem_append.mp hm with r | r
    · exact I.2.2.2 m' r
    · rw [List.mem_singleton.mp r]; exact M
theorem zPost_no (S : sqSt) (m : sqMs) : zno (zPost S m) = zno S := by
  unfold zPost; split <;> rfl
theorem zPost_g (S : sqSt) (m : sqMs) : zg (zPost S m) = zg S := by
  unfold zPost; split <;> rfl
theorem zPost_ti (S : sqSt) (m : sqMs) : zti (zPost S m) = zti S := by
  unfold zPost; split <;> rfl
theorem zPost_de (S : sqSt) (m : sqMs) : zde (zPost S m) = zde S := by
  unfold zPost; split <;> rfl
theorem zPost_se (S : sqSt) (m : sqMs) : zse (zPost S m) = zse S := by
  unfold zPost; split <;> rfl
theorem zSnd_no (S : sqSt) (n i : Nat) : zno (zSnd S n i) = zno S := by
  unfold zSnd; split <;> exact zPost_no _ _
theorem zSnd_g (S : sqSt) (n i : Nat) : zg (zSnd S n i) = zg S := by
  unfold zSnd; split <;> exact zPost_g _ _
theorem zN_at (S : sqSt) (n : Nat) (N : sqN) : zno (zN S n N) n = N := sqU1_at
theorem zI.node (I : zI h S) (hN : sqNI h n N) : zI h (zN S n N) := by
  refine ⟨I.1, I.2.1, fun v hv => ?_, I.2.2.2⟩
  by_cases q : v = n
  · rw [q]
    show sqNI h n (sqU1 (zno S) n N n)
    rw [sqU1_at]; exact hN
  · show sqNI h v (sqU1 (zno S) n N v)
    rw [sqU1_ne q]; exact I.2.2.1 v hv
theorem zI.grow (I : zI h S) (I' : sqI h') (L : sqLe n t h h') (hN : sqNI h' n N) : zI h' (zN S n N) := by
  refine ⟨L.1.trans I.1, I', fun v hv => ?_, fun m hm => sqMI.keep L (I.2.2.2 m hm)⟩
  by_cases q : v = n
  · rw [q]
    show sqNI h' n (sqU1 (zno S) n N n)
    rw [sqU1_at]; exact hN
  · show sqNI h' v (sqU1 (zno S) n N v)
    rw [sqU1_ne q]; exact sqNI.keep I.2.1 L q (I.2.2.1 v hv)
theorem zI.grow0 (I : zI h S) (hn : n < 5) (I' : sqI h') (L : sqLe n t h h') (hN : sqNI h' n (zno S n)) : zI h' S := by
  refine ⟨L.1.trans I.1, I', fun v hv => ?_, fun m hm => sqMI.keep L (I.2.2.2 m hm)⟩
  by_cases q : v = n
  · rw [q]; exact hN
  · exact sqNI.keep I.2.1 L q (I.2.2.1 v hv)
theorem sqNI.ld (a : sqNI h n N) (hr : nro N = 2) : sqLd h n N := by
  obtain ⟨b1, b2, b3, b4⟩ := a.2.2.2.2.1 hr
  exact ⟨b1, b2, fun u hu => (b4 u hu).2⟩
theorem zI.snd (I : zI h S) (hn : n < 5) {i : Nat} (hi : i < 5) (D : sqLd h n (zno S n)) : zI h (zSnd S n i) := by
  obtain ⟨⟨a1, a2⟩, a3, ⟨a4, a5, a6, a7⟩, ⟨a8, a9, a10, a11⟩, a12, a13⟩ := I.2.2.1 n hn
  obtain ⟨d1, d2, d3⟩ := D
  obtain ⟨d4, d5⟩ := d3 i hi
  unfold zSnd
  by_cases q : nnx (zno S n) i ≤ nbs (zno S n)
  · rw [if_pos q]
    refine I.post ⟨⟨hn, hi, by show 4 ≤ 4; decide⟩, fun r => (by cases r), fun r => (by cases r), fun r => (by cases r), fun r => (by cases r), fun _ => ⟨d1, ?_, ?_, ?_, ?_⟩⟩
    · show nbs (zno S n) ≤ (hLg h (ntm (zno S n))).length
      rw [← d2]; omega
    · show sqS h (ntm (zno S n)) (hLg h (ntm (zno S n))) (nbs (zno S n))
      rw [← d2]; exact a11.mono a8
    · show sqTT _ _ = sqTT (hLg h (ntm (zno S n))) _
      rw [← d2]
    · show _ = (hLg h (ntm (zno S n))).take _
      rw [← d2]
  · rw [if_neg q]
    refine I.post ⟨⟨hn, hi, by show 2 ≤ 4; decide⟩, fun r => (by cases r), fun r => (by cases r), fun _ => ⟨d1, ?_, ?_, ?_, ?_, rfl, ?_, ?_⟩, fun r => (by cases r), fun r => (by cases r)⟩
    · show nnx (zno S n) i - 1 ≤ (hLg h (ntm (zno S n))).length
      rw [← d2]; omega
    · show sqTT _ _ = sqTT (hLg h (ntm (zno S n))) _
      rw [← d2]
    · intro k e hk
      show (hLg h (ntm (zno S n)))[nnx (zno S n) i - 1 + k]? = some e
      rw [← d2]
      have hk' : (((nlg (zno S n)).drop (nnx (zno S n) i - 1)).take 4)[k]? = some e := hk
      rw [List.getElem?_take] at hk'
      split at hk'
      · rw [List.getElem?_drop] at hk'; exact hk'
      · cases hk'
    · show (((nlg (zno S n)).drop (nnx (zno S n) i - 1)).take 4).length ≤ 4
      rw [List.length_take]; exact Nat.min_le_left _ _
    · show ncm (zno S n) ≤ (hLg h (ntm (zno S n))).length
      rw [← d2]; exact a9
    · show sqS h (ntm (zno S n)) (hLg h (ntm (zno S n))) (ncm (zno S n))
      rw [← d2]; exact a11
theorem zI.all (I : zI h S) (hn : n < 5) (D : sqLd h n (zno S n)) : zI h (zAll S n) ∧ zno (zAll S n) = zno S := by
  have key : ∀ (l : List Nat) (S : sqSt), (∀ i, i ∈ l → i < 5) → zI h S → sqLd h n (zno S n) → zI h (l.foldl (fun S i => if i ≠ n ∧ zmem S (zno S n) i = true then zSnd S n i else S) S) ∧ zno (l.foldl (fun S i => if i ≠ n ∧ zmem S (zno S n) i = true then zSnd S n i else S) S) = zno S := by
    intro l
    induction l with
    | nil => intro S _ I _; exact ⟨I, rfl⟩
    | cons a l ih =>
      intro S hl I D
      rw [List.foldl_cons]
      by_cases q : a ≠ n ∧ zmem S (zno S n) a = true
      · rw [if_pos q]
        have e := zSnd_no S n a
        obtain ⟨r1, r2⟩ := ih (zSnd S n a) (fun i hi => hl i (List.mem_cons_of_mem _ hi)) (I.snd hn (hl a List.mem_cons_self) D) (by rw [e]; exact D)
        exact ⟨r1, r2.trans e⟩
      · rw [if_neg q]
        exact ih S (fun i hi => hl i (List.mem_cons_of_mem _ hi)) I D
  exact key (List.range 5) S (fun i hi => List.mem_range.mp hi) I D
theorem sqF_G (I : sqI h) {l : List sqE} (hO : sqO h l) : sqG (sqF (hg0 h) l) := by
  have hl := sqF_cases (hg0 h) l 0 l.length (Nat.zero_le _) (Nat.le_refl _)
  rw [List.take_length] at hl
  rcases hl with q | ⟨j, e, c, -, -, h3, h4, h5, -⟩
  · rw [q]
    exact ⟨by show 0 < 32; decide, I.2.2.2.2.2.2.1, I.2.2.2.2.2.2.2⟩
  · rw [h5]; exact (sq4x I hO h3 h4).1
theorem zCmx_ok (I : zI h S) (hn : n < 5) (hr : nro (zno S n) = 2) : ncm (zno S n) ≤ zCmx S n (zno S n) ∧ zCmx S n (zno S n) ≤ (nlg (zno S n)).length ∧ sqS h (ntm (zno S n)) (nlg (zno S n)) (zCmx S n (zno S n)) := by
  have a := I.2.2.1 n hn
  obtain ⟨a8, a9, a10, a11⟩ := a.2.2.2.1
  rcases sqFind_or (fun i => sqTT (nlg (zno S n)) i == ntm (zno S n) && sqQb (zc S (zno S n)) (zHold (zno S n) n i)) (ncm (zno S n)) (nlg (zno S n)).length with q | ⟨q1, q2, q3⟩
  · have e : zCmx S n (zno S n) = ncm (zno S n) := q
    rw [e]; exact ⟨Nat.le_refl _, a9, a11⟩
  · have e : sqFind (fun i => sqTT (nlg (zno S n)) i == ntm (zno S n) && sqQb (zc S (zno S n)) (zHold (zno S n) n i)) (ncm (zno S n)) (nlg (zno S n)).length = zCmx S n (zno S n) := rfl
    rw [e] at q1 q2 q3
    refine ⟨Nat.le_of_lt q1, q2, ?_⟩
    generalize zCmx S n (zno S n) = k at q1 q2 q3
    obtain ⟨j, rfl⟩ : ∃ j, k = j + 1 := ⟨k - 1, by omega⟩
    simp only [Bool.and_eq_true, beq_iff_eq] at q3
    have hj : (nlg (zno S n))[j]? = some (nlg (zno S n))[j] := List.getElem?_eq_getElem q2
    have hQ := sqQb_iff.mp q3.2
    unfold zc at hQ
    rw [← I.1] at hQ
    refine sqNI.lead I.2.1 a hr hj ((sqTT_some hj).symm.trans q3.1) hQ (fun u _ hu => ?_)
    unfold zHold at hu
    simpa using hu
theorem zI.com (I : zI h S) (hn : n < 5) (hr : nro (zno S n) = 2) : ∃ h', zI h' (zCom S n) ∧ sqLd h' n (zno (zCom S n) n) := by
  have a := I.2.2.1 n hn
  obtain ⟨c1, c2, c3⟩ := zCmx_ok I hn hr
  generalize hk : zCmx S n (zno S n) = k at c1 c2 c3
  have hld := a.2.2.2.2.1 hr
  have a1 : sqNI h n (nCm (zno S n) k) := sqNI.com a rfl rfl rfl rfl c1 c2 c3 (fun q => ⟨q, hld.2.2.2⟩) (fun q => ⟨q, (a.2.2.2.2.2 q).2.2.2⟩)
  have base : zI h (zN S n (nCm (zno S n) k)) := I.node a1
  unfold zCom
  rw [hk]
  by_cases q1 : sqCI (nlg (zno S n)) ≤ k
  · rw [if_pos q1]
    by_cases q2 : (zc S (zno S n)).1 ≠ 0
    · rw [if_pos q2]
      by_cases q3 : (nlg (zno S n)).length < nbs (zno S n) + 24
      · rw [if_pos q3]
        have hG := sqF_G I.2.1 a.1.1
        have hg : sqF (hg0 h) (nlg (zno S n)) = zc S (zno S n) := by unfold zc; rw [I.1]
        rw [hg] at hG
        have hC : sqC (ntm (zno S n), 2, Int32.ofNat (zc S (zno S n)).2) = some (0, (zc S (zno S n)).2) := by
          unfold sqC
          rw [if_neg (show ¬ (2 : Nat) = 1 by decide), if_pos rfl]
          have : (Int32.ofNat (zc S (zno S n)).2).toNatClampNeg = (zc S (zno S n)).2 := Int32.toNatClampNeg_ofNat_of_lt (by have := hG.2.2; omega)
          rw [this, Nat.mod_eq_of_lt hG.2.2]
        obtain ⟨b1, b2, b3⟩ := sq_app (N' := nLg (nCm (zno S n) k) (nlg (zno S n) ++ [(ntm (zno S n), 2, Int32.ofNat (zc S (zno S n)).2)])) I.2.1 a1 hr (e := (ntm (zno S n), 2, Int32.ofNat (zc S (zno S n)).2)) rfl (fun c hc => by
          rw [hC] at hc
          cases hc
          refine ⟨⟨by show 0 < 32; decide, hG.2.1, hG.2.2⟩, ?_, ?_⟩
          · show sqJ (sqF (hg0 h) (nlg (zno S n))) _
            rw [hg]
            exact Or.inr ⟨q2, rfl, rfl⟩
          · intro j' e' hj hc'
            exact Nat.lt_of_lt_of_le (sqCI_lt _ j' e' hj hc') q1) rfl rfl rfl rfl rfl hr rfl rfl q3
        refine ⟨_, I.grow b1 b2 b3, ?_⟩
        rw [zN_at]
        exact sqNI.ld b3 hr
      · rw [if_neg q3]
        exact ⟨h, base, by rw [zN_at]; exact sqNI.ld a1 hr⟩
    · rw [if_neg q2]
      by_cases q3 : (zc S (zno S n)).2.testBit n = true
      · rw [if_pos q3]
        exact ⟨h, base, by rw [zN_at]; exact sqNI.ld a1 hr⟩
      · rw [if_neg q3]
        have a2 : sqNI h n (nTi (nRo (nCm (zno S n) k) 0) (zTim S n (ntm (zno S n)))) := sqNI.same a1 rfl rfl rfl ⟨Nat.le_refl _, a1.2.2.2.1.1⟩ (Nat.le_refl _) (fun q => (by cases q)) (fun q => (by cases q))
        refine ⟨h, I.node a2, ?_⟩
        rw [zN_at]
        show sqLd h n (nCm (zno S n) k)
        exact sqNI.ld a1 hr
  · rw [if_neg q1]
    exact ⟨h, base, by rw [zN_at]; exact sqNI.ld a1 hr⟩
theorem zI.win (I : zI h S) (hn : n < 5) (hr : nro (zno S n) = 1) (hQ : sqQb (zc S (zno S n)) (nvs (zno S n)) = true) : ∃ h', zI h' (zWin S n) := by
  have a := I.2.2.1 n hn
  have hQ' := sqQb_iff.mp hQ
  unfold zc at hQ'
  rw [← I.1] at hQ'
  obtain ⟨b1, b2, b3⟩ := sq_win (N' := nLead (zno S n)) I.2.1 a hr hQ' rfl rfl rfl rfl rfl rfl (fun u => ⟨rfl, rfl⟩)
  have I1 : zI (hWin h n (ntm (zno S n)) (nlg (zno S n)) (nvs (zno S n))) (zLead S n) := zI.grow (S := zW (zS S 4 1) (ntm (zno S n)) (Int32.ofNat n)) I b1 b2 b3
  have e1 : zno (zLead S n) n = nLead (zno S n) := zN_at _ _ _
  unfold zWin
  by_cases q : (nlg (zno S n)).length < nbs (zno S n) + 24
  · rw [if_pos q]
    have hr1 : nro (zno (zLead S n) n) = 2 := by rw [e1]; rfl
    obtain ⟨c1, c2, c3⟩ := sq_app (N' := nLg (zno (zLead S n) n) (nlg (zno (zLead S n) n) ++ [(ntm (zno (zLead S n) n), 3, 0)])) I1.2.1 (I1.2.2.1 n hn) hr1 (e := (ntm (zno (zLead S n) n), 3, 0)) rfl (fun c hc => by cases hc) rfl rfl rfl rfl rfl hr1 rfl rfl (by rw [e1]; exact q)
    have I2 := zI.grow I1 c1 c2 c3
    have hr2 : nro (zno (zAdd (zLead S n) n 3 0) n) = 2 := by unfold zAdd; rw [zN_at]; exact hr1
    obtain ⟨h3, I3, D3⟩ := zI.com (S := zAdd (zLead S n) n 3 0) I2 hn hr2
    exact ⟨h3, (I3.all hn D3).1⟩
  · rw [if_neg q]
    exact ⟨_, (I1.all hn (by rw [e1]; exact sqNI.ld b3 rfl)).1⟩
end ZI
