/-! Safety, the doings of one node that add to the history: it stands, votes, acknowledges, wins, appends. -/
section SqHist
variable {h : sqH} {v : Nat} {N N' : sqN}
def hStand (h : sqH) (v T : Nat) (l : List sqE) : sqH := (hg0 h, hel h, hLE h, hLg h, hEV h, sqU2 (hvt h) T v (some v), sqU2 (hcl h) T v l, hak h)
theorem sq_stand (I : sqI h) (a : sqNI h v N) (e1 : ntm N' = ntm N + 1) (e2 : nvo N' = some v) (e3 : nlg N' = nlg N) (e4 : nbs N' = nbs N) (e5 : ncm N' = ncm N) (e6 : nro N' = 1) (e7 : ∀ u, nvs N' u = true → u = v) : sqI (hStand h v (ntm N + 1) (nlg N)) ∧ sqLe v (ntm N + 1) h (hStand h v (ntm N + 1) (nlg N)) ∧ sqNI (hStand h v (ntm N + 1) (nlg N)) v N' := by
  have hn : hvt h (ntm N + 1) v = none := a.2.2.1.2.1 _ (Nat.lt_succ_self _)
  have L : sqLe v (ntm N + 1) h (hStand h v (ntm N + 1) (nlg N)) := by
    refine ⟨rfl, fun _ _ q => ⟨q, rfl⟩, fun _ _ q => Or.inl q, fun _ _ => sqA.refl (Nat.le_refl _), fun _ _ _ _ => rfl, ?_, ?_, ?_, fun _ _ => Nat.le_refl _, fun _ _ _ => rfl, fun _ _ _ _ q => Or.inr q⟩
    · intro T u c q
      refine (sqU2_ne (fun r => ?_)).trans q
      rw [r.1, r.2, hn] at q; cases q
    · intro T u hu
      exact sqU2_ne (fun q => hu q.2)
    · intro T c q
      exact sqU2_ne (fun r => by rw [r.1, r.2, hn] at q; cases q)
  obtain ⟨⟨a1, a2⟩, a3, ⟨a4, a5, a6, a7⟩, ⟨a8, a9, a10, a11⟩, a12, a13⟩ := a
  have hvt1 : hvt (hStand h v (ntm N + 1) (nlg N)) (ntm N + 1) v = some v := sqU2_at
  have hcl1 : hcl (hStand h v (ntm N + 1) (nlg N)) (ntm N + 1) v = nlg N := sqU2_at
  refine ⟨⟨I.1, ?_, ?_, I.2.2.2.1, ?_, I.2.2.2.2.2⟩, L, ?_⟩
  · intro T c q
    obtain ⟨b1, b2⟩ := I.2.1 T c q
    exact ⟨b1, fun u hu hw => ⟨L.2.2.2.2.2.1 T u c (b2 u hu hw).1, (b2 u hu hw).2⟩⟩
  · intro T u c q
    by_cases hh : T = ntm N + 1 ∧ u = v
    · obtain ⟨rfl, rfl⟩ := hh
      rw [hvt1] at q
      have hc := Option.some.inj q
      subst hc
      refine ⟨hvt1, ?_⟩
      rw [hcl1]
      intro T0 i h1 h2 h3
      exact (a3 T0 i h2 h3).imp id (fun ⟨T'', b1, b2, b3, b4⟩ => ⟨T'', b1, b2, by omega, b4⟩)
    · have q' : hvt h T u = some c := (sqU2_ne hh).symm.trans q
      obtain ⟨b1, b2⟩ := I.2.2.1 T u c q'
      refine ⟨L.2.2.2.2.2.1 T c c b1, ?_⟩
      rw [L.2.2.2.2.2.2.2.1 T c b1]
      exact b2
  · intro T c
    by_cases hh : T = ntm N + 1 ∧ c = v
    · obtain ⟨rfl, rfl⟩ := hh
      rw [hcl1]
      exact ⟨a1, fun j e hj => Nat.lt_succ_of_le (a2 j e hj), fun q => absurd (a7 _ q) (by omega)⟩
    · have e : hcl (hStand h v (ntm N + 1) (nlg N)) T c = hcl h T c := sqU2_ne hh
      rw [e]
      exact I.2.2.2.2.1 T c
  · unfold sqNI
    rw [e1, e2, e3, e4, e5, e6]
    refine ⟨⟨a1, fun j e hj => Nat.le_succ_of_le (a2 j e hj)⟩, fun T i h1 h2 => ?_, ⟨fun T hT => Nat.le_succ_of_le (a4 T hT), fun T hT => ?_, hvt1, fun T hT => Nat.le_succ_of_le (a7 T hT)⟩, ⟨a8, a9, a10, (L.S a11).up (Nat.le_succ _)⟩, fun q => (by cases q), fun _ => ⟨hcl1.symm, hvt1, fun q => absurd (a7 _ q) (by omega), fun u _ hw => ?_⟩⟩
    · exact (a3 T i h1 h2).imp id (fun ⟨T'', b1, b2, b3, b4⟩ => ⟨T'', b1, b2, Nat.le_succ_of_le b3, b4⟩)
    · exact (sqU2_ne (fun q => by omega)).trans (a5 T (by omega))
    · rw [e7 u hw]; exact hvt1
theorem sqTT_last {l : List sqE} {e : sqE} {j : Nat} (h : l[j]? = some e) (hj : j + 1 = l.length) : sqTT l l.length = sqT e := by
  rw [← hj]; exact sqTT_some h
/-- a candidate whose log is not behind has what the voter has acknowledged -/
theorem sq_upto (I : sqI h) (a : sqNI h v N) {c : Nat} (hup : sqTT (nlg N) (nlg N).length < sqTT (hcl h (ntm N) c) (hcl h (ntm N) c).length ∨ (sqTT (nlg N) (nlg N).length = sqTT (hcl h (ntm N) c) (hcl h (ntm N) c).length ∧ (nlg N).length ≤ (hcl h (ntm N) c).length)) : sqV h (ntm N) v (hcl h (ntm N) c) (ntm N + 1) := by
  intro T i hT h1 h2
  obtain ⟨⟨a1, a2⟩, a3, -⟩ := a
  rcases a3 T i h1 h2 with q | ⟨T'', b1, b2, b3, b4⟩
  · obtain ⟨p1, p2, p3⟩ := I.2.2.2.2.1 (ntm N) c
    have hTe := (I.2.2.2.2.2.1 T v).2 (by omega)
    obtain ⟨r1, r2, r3, r4⟩ := I.1 T hTe
    have hi : i - 1 < (hLg h T).length := by have := q.1; omega
    have hgi := List.getElem?_eq_getElem hi
    have ht := r4 _ _ hgi (by omega)
    have hgl := q.get (by omega : i - 1 < i) hgi
    have hll : (nlg N).length - 1 < (nlg N).length := by have := q.2.1; omega
    have hlast := List.getElem?_eq_getElem hll
    have hTf : T ≤ sqT (nlg N)[(nlg N).length - 1] := by
      rw [← ht]
      exact sqO_mono I a1 hlast (by have := q.2.1; omega) hgl
    have hf := sqTT_last hlast (by omega)
    have hA := (a1 _ _ hlast).2
    rw [show (nlg N).length - 1 + 1 = (nlg N).length by omega] at hA
    have hlpos : 0 < (hcl h (ntm N) c).length := by
      rcases Nat.eq_zero_or_pos (hcl h (ntm N) c).length with z | z
      · exfalso
        rw [z] at hup
        have z0 : sqTT (hcl h (ntm N) c) 0 = 0 := rfl
        rw [z0] at hup
        rcases hup with u | u <;> omega
      · exact z
    have hlc : (hcl h (ntm N) c).length - 1 < (hcl h (ntm N) c).length := by omega
    have hlastc := List.getElem?_eq_getElem hlc
    have hfc := sqTT_last hlastc (by omega)
    have hAc := p1 _ _ hlastc
    rw [show (hcl h (ntm N) c).length - 1 + 1 = (hcl h (ntm N) c).length by omega] at hAc
    rw [hf, hfc] at hup
    rcases hup with hup | ⟨hup, hle⟩
    · have htt : T < sqT (hcl h (ntm N) c)[(hcl h (ntm N) c).length - 1] := Nat.lt_of_le_of_lt hTf hup
      by_cases r : sqA (hLg h T) (hLE h (sqT (hcl h (ntm N) c)[(hcl h (ntm N) c).length - 1])) i
      · have r5 := r.trans ((I.1 _ hAc.1).1.mono r.2.1)
        have hown := sqO_own I p1 hlastc
        have := r.2.1
        exact Or.inl (r5.trans (hAc.2.mono (by omega)).symm)
      · refine Or.inr ⟨_, hAc.1, htt, ?_, r⟩
        have := p2 _ _ hlastc
        omega
    · rw [← hup] at hAc
      have := hA.trans (hAc.2.mono hle).symm
      exact Or.inl (q.trans (this.mono q.2.1))
  · exact Or.inr ⟨T'', b1, b2, Nat.lt_succ_of_le b3, b4⟩
def hVote (h : sqH) (v T c : Nat) : sqH := (hg0 h, hel h, hLE h, hLg h, hEV h, sqU2 (hvt h) T v (some c), hcl h, hak h)
theorem sq_vote (I : sqI h) (a : sqNI h v N) {c : Nat} (hn : nvo N = none) (hst : hvt h (ntm N) c = some c) (hup : sqTT (nlg N) (nlg N).length < sqTT (hcl h (ntm N) c) (hcl h (ntm N) c).length ∨ (sqTT (nlg N) (nlg N).length = sqTT (hcl h (ntm N) c) (hcl h (ntm N) c).length ∧ (nlg N).length ≤ (hcl h (ntm N) c).length)) (e1 : ntm N' = ntm N) (e2 : nvo N' = some c) (e3 : nlg N' = nlg N) (e4 : nbs N' = nbs N) (e5 : ncm N' = ncm N) (e6 : nro N' = nro N) (e7 : nmt N' = nmt N) (e8 : nnx N' = nnx N) : sqI (hVote h v (ntm N) c) ∧ sqLe v (ntm N) h (hVote h v (ntm N) c) ∧ sqNI (hVote h v (ntm N) c) v N' := by
  have hV := sq_upto I a hup
  have hn' : hvt h (ntm N) v = none := a.2.2.1.2.2.1.trans hn
  have L : sqLe v (ntm N) h (hVote h v (ntm N) c) := by
    refine ⟨rfl, fun _ _ q => ⟨q, rfl⟩, fun _ _ q => Or.inl q, fun _ _ => sqA.refl (Nat.le_refl _), fun _ _ _ _ => rfl, ?_, ?_, fun _ _ _ => rfl, fun _ _ => Nat.le_refl _, fun _ _ _ => rfl, fun _ _ _ _ q => Or.inr q⟩
    · intro T u c q
      refine (sqU2_ne (fun r => ?_)).trans q
      rw [r.1, r.2, hn'] at q; cases q
    · intro T u hu
      exact sqU2_ne (fun q => hu q.2)
  obtain ⟨⟨a1, a2⟩, a3, ⟨a4, a5, a6, a7⟩, ⟨a8, a9, a10, a11⟩, a12, a13⟩ := a
  have hvt1 : hvt (hVote h v (ntm N) c) (ntm N) v = some c := sqU2_at
  refine ⟨⟨I.1, ?_, ?_, I.2.2.2.1, I.2.2.2.2.1, I.2.2.2.2.2⟩, L, ?_⟩
  · intro T c q
    obtain ⟨b1, b2⟩ := I.2.1 T c q
    exact ⟨b1, fun u hu hw => ⟨L.2.2.2.2.2.1 T u c (b2 u hu hw).1, (b2 u hu hw).2⟩⟩
  · intro T u c' q
    by_cases hh : T = ntm N ∧ u = v
    · obtain ⟨rfl, rfl⟩ := hh
      rw [hvt1] at q
      have hc := Option.some.inj q
      subst hc
      exact ⟨L.2.2.2.2.2.1 _ _ _ hst, hV⟩
    · have q' : hvt h T u = some c' := (sqU2_ne hh).symm.trans q
      obtain ⟨b1, b2⟩ := I.2.2.1 T u c' q'
      exact ⟨L.2.2.2.2.2.1 T c' c' b1, b2⟩
  · unfold sqNI
    rw [e1, e2, e3, e4, e5, e6, e7, e8]
    refine ⟨⟨a1, a2⟩, a3, ⟨a4, fun T hT => ?_, hvt1, a7⟩, ⟨a8, a9, a10, L.S a11⟩, a12, fun q => ?_⟩
    · exact (sqU2_ne (fun q => by omega)).trans (a5 T hT)
    · have := (a13 q).2.1
      rw [hn'] at this
      cases this
def hAck (h : sqH) (v T e : Nat) : sqH := (hg0 h, hel h, hLE h, hLg h, hEV h, hvt h, hcl h, sqU2 (hak h) T v (max (hak h T v) e))
theorem sq_ack (I : sqI h) (a : sqNI h v N) {e : Nat} (hT : hel h (ntm N) ≠ none) (hA : sqA (nlg N) (hLg h (ntm N)) e) : sqI (hAck h v (ntm N) e) ∧ sqLe v (ntm N) h (hAck h v (ntm N) e) ∧ sqNI (hAck h v (ntm N) e) v N ∧ e ≤ hak (hAck h v (ntm N) e) (ntm N) v := by
  have hak1 : hak (hAck h v (ntm N) e) (ntm N) v = max (hak h (ntm N) v) e := sqU2_at
  have hak2 : ∀ T u, ¬ (T = ntm N ∧ u = v) → hak (hAck h v (ntm N) e) T u = hak h T u := fun T u q => sqU2_ne q
  have L : sqLe v (ntm N) h (hAck h v (ntm N) e) := by
    refine ⟨rfl, fun _ _ q => ⟨q, rfl⟩, fun _ _ q => Or.inl q, fun _ _ => sqA.refl (Nat.le_refl _), fun _ _ _ _ => rfl, fun _ _ _ q => q, fun _ _ _ => rfl, fun _ _ _ => rfl, ?_, ?_, ?_⟩
    · intro T u
      by_cases hh : T = ntm N ∧ u = v
      · rw [hh.1, hh.2, hak1]; exact Nat.le_max_left _ _
      · rw [hak2 T u hh]; exact Nat.le_refl _
    · intro T u hu
      exact hak2 T u (fun q => hu q.2)
    · intro T u i h1 h2
      by_cases hh : T = ntm N ∧ u = v
      · exact Or.inl ⟨hh.2, hh.1⟩
      · rw [hak2 T u hh] at h2; exact Or.inr h2
  obtain ⟨⟨a1, a2⟩, a3, ⟨a4, a5, a6, a7⟩, ⟨a8, a9, a10, a11⟩, a12, a13⟩ := a
  have hvle : ∀ T c, hvt h T v = some c → T ≤ ntm N := fun T c q => by
    rcases Nat.lt_or_ge (ntm N) T with r | r
    · rw [a5 T r] at q; cases q
    · exact r
  refine ⟨⟨I.1, ?_, ?_, ?_, I.2.2.2.2.1, ?_, I.2.2.2.2.2.2⟩, L, ?_, by rw [hak1]; exact Nat.le_max_right _ _⟩
  · intro T c q
    obtain ⟨b1, b2⟩ := I.2.1 T c q
    refine ⟨b1, fun u hu hw => ⟨(b2 u hu hw).1, ?_⟩⟩
    intro T0 i k1 k2 k3
    refine (b2 u hu hw).2 T0 i k1 k2 ?_
    rw [hak2] at k3
    · exact k3
    · rintro ⟨r1, r2⟩
      have := (b2 u hu hw).1
      rw [r2] at this
      have := hvle _ _ this
      omega
  · intro T u c q
    obtain ⟨b1, b2⟩ := I.2.2.1 T u c q
    refine ⟨b1, sqLe.V I L (fun r => ?_) b2⟩
    rw [r] at q
    exact hvle _ _ q
  · intro T hTe j e c k1 k2 k3
    obtain ⟨c0, c1, c2⟩ := I.2.2.2.1 T hTe j e c k1 k2 k3
    refine ⟨c0, c1, fun j' e' m1 m2 m3 => ?_⟩
    obtain ⟨T0, i0, n0, d1, d2, d3, d4, d5⟩ := c2 j' e' m1 m2 m3
    exact ⟨T0, i0, n0, d1, d2, d3, L.K d4, d5⟩
  · intro T u
    by_cases hh : T = ntm N ∧ u = v
    · rw [hh.1, hh.2, hak1]
      have := (I.2.2.2.2.2.1 (ntm N) v).1
      exact ⟨Nat.max_le.mpr ⟨this, hA.2.1⟩, fun _ => hT⟩
    · rw [hak2 T u hh]; exact I.2.2.2.2.2.1 T u
  · refine ⟨⟨a1, a2⟩, fun T i k1 k2 => ?_, ⟨fun T hT => ?_, a5, a6, a7⟩, ⟨a8, a9, a10, L.S a11⟩, fun r => ?_, a13⟩
    · by_cases hh : T = ntm N
      · rw [hh, hak1] at k2
        rw [hh]
        rcases Nat.lt_or_ge e i with q | q
        rotate_left
        · exact Or.inl (hA.mono q).symm
        · rw [hh] at k1
          exact a3 (ntm N) i k1 (by omega)
      · rw [hak2 T v (fun q => hh q.1)] at k2
        exact a3 T i k1 k2
    · by_cases hh : T = ntm N
      · exact Nat.le_of_eq hh
      · rw [hak2 T v (fun q => hh q.1)] at hT
        exact a4 T hT
    · obtain ⟨b1, b2, b3, b4⟩ := a12 r
      exact ⟨b1, b2, Nat.le_trans b3 (L.2.2.2.2.2.2.2.2.1 _ _), fun u hu => ⟨Nat.le_trans (b4 u hu).1 (L.2.2.2.2.2.2.2.2.1 _ _), (b4 u hu).2⟩⟩
end SqHist
