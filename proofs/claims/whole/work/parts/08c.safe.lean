/-! Safety, the doings of one node that leave the history: a greater term, an entry taken, a snapshot taken, a commit. -/
section SqStep
variable {h : sqH} {v : Nat} {N N' : sqN}
theorem sqNI.same (a : sqNI h v N) (e1 : ntm N' = ntm N) (e2 : nvo N' = nvo N) (e3 : nlg N' = nlg N) (e4 : nbs N ≤ nbs N' ∧ nbs N' ≤ ncm N') (e5 : ncm N' ≤ ncm N) (e6 : nro N' = 2 → nro N = 2 ∧ ∀ u, u < 5 → nmt N' u ≤ hak h (ntm N) u ∧ 1 ≤ nnx N' u ∧ nnx N' u ≤ (nlg N).length + 1) (e7 : nro N' = 1 → nro N = 1 ∧ ∀ u, u < 5 → nvs N' u = true → hvt h (ntm N) u = some v) : sqNI h v N' := by
  obtain ⟨⟨a1, a2⟩, a3, ⟨a4, a5, a6, a7⟩, ⟨a8, a9, a10, a11⟩, a12, a13⟩ := a
  unfold sqNI
  rw [e1, e2, e3]
  refine ⟨⟨a1, a2⟩, a3, ⟨a4, a5, a6, a7⟩, ⟨e4.2, by omega, by omega, a11.mono e5⟩, ?_, ?_⟩
  · intro hr
    obtain ⟨q1, q2⟩ := e6 hr
    obtain ⟨b1, b2, b3, b4⟩ := a12 q1
    exact ⟨b1, b2, b3, q2⟩
  · intro hr
    obtain ⟨q1, q2⟩ := e7 hr
    obtain ⟨b1, b2, b3, b4⟩ := a13 q1
    exact ⟨b1, b2, b3, q2⟩
theorem sqNI.bump (a : sqNI h v N) (e1 : ntm N < ntm N') (e2 : nvo N' = none) (e3 : nlg N' = nlg N) (e4 : nbs N' = nbs N) (e5 : ncm N' = ncm N) (e6 : nro N' = 0) : sqNI h v N' := by
  obtain ⟨⟨a1, a2⟩, a3, ⟨a4, a5, a6, a7⟩, ⟨a8, a9, a10, a11⟩, a12, a13⟩ := a
  unfold sqNI
  rw [e2, e3, e4, e5, e6]
  refine ⟨⟨a1, fun j e hj => Nat.le_trans (a2 j e hj) (Nat.le_of_lt e1)⟩, ?_, ⟨fun T hT => Nat.le_trans (a4 T hT) (Nat.le_of_lt e1), fun T hT => a5 T (Nat.lt_trans e1 hT), a5 _ e1, fun T hT => Nat.le_trans (a7 T hT) (Nat.le_of_lt e1)⟩, ⟨a8, a9, a10, a11.up (Nat.le_of_lt e1)⟩, fun q => (by cases q), fun q => (by cases q)⟩
  intro T i h1 h2
  exact (a3 T i h1 h2).imp id (fun ⟨T'', b1, b2, b3, b4⟩ => ⟨T'', b1, b2, Nat.le_trans b3 (Nat.le_of_lt e1), b4⟩)
theorem sqNI.com (a : sqNI h v N) (e1 : ntm N' = ntm N) (e2 : nvo N' = nvo N) (e3 : nlg N' = nlg N) (e4 : nbs N' = nbs N) (e5 : ncm N ≤ ncm N') (e5' : ncm N' ≤ (nlg N).length) (hS : sqS h (ntm N) (nlg N) (ncm N')) (e6 : nro N' = 2 → nro N = 2 ∧ ∀ u, u < 5 → nmt N' u ≤ hak h (ntm N) u ∧ 1 ≤ nnx N' u ∧ nnx N' u ≤ (nlg N).length + 1) (e7 : nro N' = 1 → nro N = 1 ∧ ∀ u, u < 5 → nvs N' u = true → hvt h (ntm N) u = some v) : sqNI h v N' := by
  obtain ⟨⟨a1, a2⟩, a3, ⟨a4, a5, a6, a7⟩, ⟨a8, a9, a10, a11⟩, a12, a13⟩ := a
  unfold sqNI
  rw [e1, e2, e3, e4]
  refine ⟨⟨a1, a2⟩, a3, ⟨a4, a5, a6, a7⟩, ⟨by omega, e5', by omega, hS⟩, ?_, ?_⟩
  · intro hr
    obtain ⟨q1, q2⟩ := e6 hr
    obtain ⟨b1, b2, b3, b4⟩ := a12 q1
    exact ⟨b1, b2, b3, q2⟩
  · intro hr
    obtain ⟨q1, q2⟩ := e7 hr
    obtain ⟨b1, b2, b3, b4⟩ := a13 q1
    exact ⟨b1, b2, b3, q2⟩
/-- the log of a follower becomes a beginning of the leader's, where it did not agree -/
theorem sqNI.cut (I : sqI h) (a : sqNI h v N) (hT : hel h (ntm N) ≠ none) {s : Nat} (hs : s ≤ (hLg h (ntm N)).length) (hx : ∀ i, sqA (nlg N) (hLg h (ntm N)) i → i ≤ s) (e1 : ntm N' = ntm N) (e2 : nvo N' = nvo N) (e3 : nlg N' = (hLg h (ntm N)).take s) (e4 : nbs N' ≤ ncm N' ∧ s ≤ nbs N' + 24) (e5 : ncm N' ≤ s) (hS : sqS h (ntm N) (hLg h (ntm N)) (ncm N')) (e6 : nro N' = 0) : sqNI h v N' := by
  obtain ⟨⟨a1, a2⟩, a3, ⟨a4, a5, a6, a7⟩, ⟨a8, a9, a10, a11⟩, a12, a13⟩ := a
  have hl : (nlg N').length = s := by rw [e3, List.length_take]; exact Nat.min_eq_left hs
  have hB : sqA (nlg N') (hLg h (ntm N)) s := ⟨Nat.le_of_eq hl.symm, hs, fun j hj => by rw [e3, List.getElem?_take_of_lt hj]⟩
  unfold sqNI
  rw [e1, e2, e6]
  refine ⟨⟨?_, ?_⟩, ?_, ⟨a4, a5, a6, a7⟩, ⟨e4.1, by omega, by omega, hS.mv (hB.mono e5).symm⟩, fun q => (by cases q), fun q => (by cases q)⟩
  · intro j e hj
    have hjs : j < s := by rw [← hl]; exact sq_lt hj
    obtain ⟨b1, b2⟩ := sqO_Lg I hT j e (hB.get hjs hj)
    exact ⟨b1, (hB.mono hjs).trans b2⟩
  · intro j e hj
    have hjs : j < s := by rw [← hl]; exact sq_lt hj
    exact sqLg_le I hT (hB.get hjs hj)
  · intro T i h1 h2
    rcases a3 T i h1 h2 with q | q
    · have hTt : T ≤ ntm N := a4 T (by omega)
      rcases Nat.eq_or_lt_of_le hTt with he | hlt
      · rw [he] at q ⊢
        exact Or.inl (hB.mono (hx i q.symm)).symm
      · by_cases r : sqA (hLg h T) (hLE h (ntm N)) i
        · have r2 := r.trans ((I.1 _ hT).1.mono r.2.1)
          exact Or.inl (r2.trans (hB.mono (hx i (q.symm.trans r2))).symm)
        · exact Or.inr ⟨ntm N, hT, hlt, Nat.le_refl _, r⟩
    · exact Or.inr q
theorem sqNI.agree (I : sqI h) (a : sqNI h v N) (hT : hel h (ntm N) ≠ none) : sqA (nlg N) (hLg h (ntm N)) (ncm N) := a.2.2.2.1.2.2.2.Lg I hT
/-- an entry of the leader's log is taken behind those that agree -/
theorem sqNI.take (I : sqI h) (a : sqNI h v N) (hT : hel h (ntm N) ≠ none) {idx : Nat} {e : sqE} (hA : sqA (nlg N) (hLg h (ntm N)) idx) (he : (hLg h (ntm N))[idx]? = some e) (hc : (nlg N).length = idx ∨ ∃ f, (nlg N)[idx]? = some f ∧ sqT f ≠ sqT e) (e1 : ntm N' = ntm N) (e2 : nvo N' = nvo N) (e3 : nlg N' = (nlg N).take idx ++ [e]) (e4 : nbs N' = nbs N) (e5 : ncm N' = ncm N) (e6 : nro N' = 0) (e7 : idx + 1 ≤ nbs N + 24) : sqNI h v N' ∧ sqA (nlg N') (hLg h (ntm N)) (idx + 1) ∧ (nlg N').length = idx + 1 ∧ ncm N ≤ idx := by
  have hlt : idx < (hLg h (ntm N)).length := sq_lt he
  have hl : ((nlg N).take idx).length = idx := by rw [List.length_take]; exact Nat.min_eq_left hA.1
  have hx : ∀ i, sqA (nlg N) (hLg h (ntm N)) i → i ≤ idx := by
    intro i hi
    rcases Nat.lt_or_ge idx i with q | q
    · exfalso
      rcases hc with hc | ⟨f, hf, hne⟩
      · have := hi.1; omega
      · have := hi.get q hf
        rw [he] at this
        exact hne (by rw [Option.some.inj this])
    · exact q
  have h3 : nlg N' = (hLg h (ntm N)).take (idx + 1) := by
    rw [e3, hA.take, List.take_succ_eq_append_getElem hlt]
    congr 2
    rw [List.getElem?_eq_getElem hlt] at he
    exact (Option.some.inj he).symm
  have hcm := hx _ (a.agree I hT)
  have hl' : (nlg N').length = idx + 1 := by rw [e3, List.length_append, hl]; rfl
  have hS : sqS h (ntm N) (hLg h (ntm N)) (ncm N') := by rw [e5]; exact a.2.2.2.1.2.2.2.mv (a.agree I hT)
  refine ⟨sqNI.cut I a hT (s := idx + 1) hlt (fun i hi => Nat.le_succ_of_le (hx i hi)) e1 e2 h3 ⟨by rw [e4, e5]; exact a.2.2.2.1.1, by rw [e4]; exact e7⟩ (by rw [e5]; exact Nat.le_succ_of_le hcm) hS e6, ⟨by omega, hlt, fun j hj => by rw [h3, List.getElem?_take_of_lt hj]⟩, hl', hcm⟩
/-- a snapshot of the leader is taken -/
theorem sqNI.inst (I : sqI h) (a : sqNI h v N) (hT : hel h (ntm N) ≠ none) {s : Nat} (hs : s ≤ (hLg h (ntm N)).length) (hS : sqS h (ntm N) (hLg h (ntm N)) s) (hcm : ncm N < s) (hc : (sqA (nlg N) (hLg h (ntm N)) s ∧ nlg N' = nlg N) ∨ (¬ sqA (nlg N) (hLg h (ntm N)) s ∧ nlg N' = (hLg h (ntm N)).take s)) (e1 : ntm N' = ntm N) (e2 : nvo N' = nvo N) (e4 : nbs N' = s) (e5 : ncm N' = s) (e6 : nro N' = 0) : sqNI h v N' := by
  rcases hc with ⟨hA, e3⟩ | ⟨hA, e3⟩
  · have a' := a
    obtain ⟨⟨a1, a2⟩, a3, ⟨a4, a5, a6, a7⟩, ⟨a8, a9, a10, a11⟩, a12, a13⟩ := a'
    unfold sqNI
    rw [e1, e2, e3, e4, e5, e6]
    exact ⟨⟨a1, a2⟩, a3, ⟨a4, a5, a6, a7⟩, ⟨Nat.le_refl _, hA.1, by omega, hS.mv hA.symm⟩, fun q => (by cases q), fun q => (by cases q)⟩
  · refine sqNI.cut I a hT hs (fun i hi => ?_) e1 e2 e3 ⟨by rw [e4, e5]; exact Nat.le_refl _, by rw [e4]; omega⟩ (by rw [e5]; exact Nat.le_refl _) (by rw [e5]; exact hS) e6
    rcases Nat.lt_or_ge i s with q | q
    · exact Nat.le_of_lt q
    · exact absurd (hi.mono q) hA
/-- what a leader commits stays -/
theorem sqNI.lead (I : sqI h) (a : sqNI h v N) (hr : nro N = 2) {j : Nat} {e : sqE} (he : (nlg N)[j]? = some e) (ht : sqT e = ntm N) {W : Nat → Bool} (hQ : sqQ (sqF (hg0 h) (nlg N)) W) (hW : ∀ u, u < 5 → W u = true → u = v ∨ j + 1 ≤ nmt N u) : sqS h (ntm N) (nlg N) (j + 1) := by
  obtain ⟨⟨a1, a2⟩, a3, ⟨a4, a5, a6, a7⟩, ⟨a8, a9, a10, a11⟩, a12, a13⟩ := a
  obtain ⟨b1, b2, b3, b4⟩ := a12 hr
  have hT : hel h (ntm N) ≠ none := by rw [b1]; exact Option.some_ne_none _
  have hlt : j < (nlg N).length := sq_lt he
  have hown := sqO_own I a1 he
  rw [ht] at hown
  refine Or.inr ⟨ntm N, j + 1, (nlg N).length, Nat.le_refl _, ⟨hT, Nat.lt_succ_of_le hown, hlt, by rw [b2]; exact Nat.le_refl _, ?_⟩, Nat.le_refl _, by rw [← b2]; exact sqA.refl hlt⟩
  rw [← b2, List.take_length]
  refine sqQ_mono (fun u hu hw => decide_eq_true ?_) hQ
  rcases hW u hu hw with q | q
  · rw [q]; omega
  · have := (b4 u hu).1; omega
end SqStep
