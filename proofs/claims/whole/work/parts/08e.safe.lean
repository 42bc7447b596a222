/-! Safety, a node wins; a leader appends. -/
section SqWin
variable {h : sqH} {v : Nat} {N N' : sqN}
def hWin (h : sqH) (v T : Nat) (l : List sqE) (W : Nat → Bool) : sqH := (hg0 h, sqU1 (hel h) T (some v), sqU1 (hLE h) T l, sqU1 (hLg h) T l, (fun T' u => if T' = T then W u else hEV h T' u), hvt h, hcl h, sqU2 (hak h) T v l.length)
theorem sq_win (I : sqI h) (a : sqNI h v N) (hr : nro N = 1) (hQ : sqQ (sqF (hg0 h) (nlg N)) (nvs N)) (e1 : ntm N' = ntm N) (e2 : nvo N' = nvo N) (e3 : nlg N' = nlg N) (e4 : nbs N' = nbs N) (e5 : ncm N' = ncm N) (e6 : nro N' = 2) (e7 : ∀ u, nmt N' u = 0 ∧ nnx N' u = (nlg N).length + 1) : sqI (hWin h v (ntm N) (nlg N) (nvs N)) ∧ sqLe v (ntm N) h (hWin h v (ntm N) (nlg N) (nvs N)) ∧ sqNI (hWin h v (ntm N) (nlg N) (nvs N)) v N' := by
  obtain ⟨⟨a1, a2⟩, a3, ⟨a4, a5, a6, a7⟩, ⟨a8, a9, a10, a11⟩, a12, a13⟩ := a
  obtain ⟨c1, c2, c3, c4⟩ := a13 hr
  have hno : hel h (ntm N) = none := by
    cases hc : hel h (ntm N) with
    | none => rfl
    | some c' =>
      exfalso
      rw [c1] at hQ
      have := sq_one I hc hQ c4
      rw [← this] at hc
      exact c3 hc
  have hz : ∀ u, hak h (ntm N) u = 0 := fun u => by
    rcases Nat.eq_zero_or_pos (hak h (ntm N) u) with q | q
    · exact q
    · exact absurd hno ((I.2.2.2.2.2.1 (ntm N) u).2 q)
  have w1 : hel (hWin h v (ntm N) (nlg N) (nvs N)) (ntm N) = some v := sqU1_at
  have w2 : hLE (hWin h v (ntm N) (nlg N) (nvs N)) (ntm N) = nlg N := sqU1_at
  have w3 : hLg (hWin h v (ntm N) (nlg N) (nvs N)) (ntm N) = nlg N := sqU1_at
  have w4 : hak (hWin h v (ntm N) (nlg N) (nvs N)) (ntm N) v = (nlg N).length := sqU2_at
  have o1 : ∀ T, T ≠ ntm N → hel (hWin h v (ntm N) (nlg N) (nvs N)) T = hel h T := fun T q => sqU1_ne q
  have o2 : ∀ T, T ≠ ntm N → hLE (hWin h v (ntm N) (nlg N) (nvs N)) T = hLE h T := fun T q => sqU1_ne q
  have o3 : ∀ T, T ≠ ntm N → hLg (hWin h v (ntm N) (nlg N) (nvs N)) T = hLg h T := fun T q => sqU1_ne q
  have o4 : ∀ T u, ¬ (T = ntm N ∧ u = v) → hak (hWin h v (ntm N) (nlg N) (nvs N)) T u = hak h T u := fun T u q => sqU2_ne q
  have hne : ∀ T, hel h T ≠ none → T ≠ ntm N := fun T q r => by rw [r] at q; exact q hno
  have L : sqLe v (ntm N) h (hWin h v (ntm N) (nlg N) (nvs N)) := by
    refine ⟨rfl, ?_, ?_, ?_, ?_, fun _ _ _ q => q, fun _ _ _ => rfl, fun _ _ _ => rfl, ?_, ?_, ?_⟩
    · intro T c q
      have hT := hne T (by rw [q]; exact Option.some_ne_none _)
      exact ⟨(o1 T hT).trans q, o2 T hT⟩
    · intro T c q
      by_cases hT : T = ntm N
      · rw [hT, w1] at q
        rw [hT]
        exact Or.inr ⟨(Option.some.inj q).symm, hno⟩
      · exact Or.inl ((o1 T hT).symm.trans q)
    · intro T q
      rw [o3 T (hne T q)]
      exact sqA.refl (Nat.le_refl _)
    · intro T c q _
      exact o3 T (hne T (by rw [q]; exact Option.some_ne_none _))
    · intro T u
      by_cases hh : T = ntm N ∧ u = v
      · rw [hh.1, hz]; exact Nat.zero_le _
      · rw [o4 T u hh]; exact Nat.le_refl _
    · intro T u hu
      exact o4 T u (fun q => hu q.2)
    · intro T u i h1 h2
      by_cases hh : T = ntm N ∧ u = v
      · rw [hh.1, w2] at h1
        rw [hh.1, hh.2, w4] at h2
        omega
      · rw [o4 T u hh] at h2
        exact Or.inr h2
  have hV : ∀ T' u X B, (T' ≤ B) → sqV h T' u X B → (∀ T, T < T' → (hLE (hWin h v (ntm N) (nlg N) (nvs N)) T).length < 0 ∨ True) → sqV (hWin h v (ntm N) (nlg N) (nvs N)) T' u X B := by
    intro T' u X B hB hv _ T0 i k1 k2 k3
    by_cases hT : T0 = ntm N
    · exfalso
      rw [hT] at k2 k3
      rw [w2] at k2
      by_cases hu : u = v
      · rw [hu, w4] at k3; omega
      · rw [o4 _ _ (fun q => hu q.2), hz] at k3; omega
    · rw [o2 T0 hT] at k2
      rw [o4 T0 u (fun q => hT q.1)] at k3
      rw [o3 T0 hT]
      rcases hv T0 i k1 k2 k3 with q | ⟨T'', b1, b2, b3, b4⟩
      · exact Or.inl q
      · refine Or.inr ⟨T'', (L.el b1).1, b2, b3, ?_⟩
        rw [(L.el b1).2]
        exact b4
  refine ⟨⟨?_, ?_, ?_, ?_, ?_, ?_, I.2.2.2.2.2.2⟩, L, ?_⟩
  · intro T q
    by_cases hT : T = ntm N
    · rw [hT, w2, w3]
      refine ⟨sqA.refl (Nat.le_refl _), L.O a1, ?_, fun j e hj hl => absurd (sq_lt hj) (by omega)⟩
      rw [c1]
      exact (I.2.2.2.2.1 (ntm N) v).2.1
    · rw [o1 T hT] at q
      obtain ⟨b1, b2, b3, b4⟩ := I.1 T q
      rw [o2 T hT, o3 T hT]
      exact ⟨b1, L.O b2, b3, b4⟩
  · intro T c q
    by_cases hT : T = ntm N
    · rw [hT, w1] at q
      have hc := Option.some.inj q
      subst hc
      rw [hT, w2]
      have hev : ∀ u, hEV (hWin h v (ntm N) (nlg N) (nvs N)) (ntm N) u = nvs N u := fun u => if_pos rfl
      refine ⟨sqQ_mono (fun u _ hw => by rw [hev]; exact hw) hQ, fun u hu hw => ?_⟩
      rw [hev] at hw
      have hvu := c4 u hu hw
      refine ⟨hvu, ?_⟩
      refine hV (ntm N) u (nlg N) (ntm N) (Nat.le_refl _) ?_ (fun _ _ => Or.inr trivial)
      intro T0 i k1 k2 k3
      have := (I.2.2.1 (ntm N) u v hvu).2 T0 i k1 k2 k3
      rw [← c1] at this
      rcases this with r | ⟨T'', b1, b2, b3, b4⟩
      · exact Or.inl r
      · have := hne T'' b1
        exact Or.inr ⟨T'', b1, b2, by omega, b4⟩
    · rw [o1 T hT] at q
      obtain ⟨b1, b2⟩ := I.2.1 T c q
      rw [o2 T hT]
      have hev : ∀ u, hEV (hWin h v (ntm N) (nlg N) (nvs N)) T u = hEV h T u := fun u => if_neg hT
      refine ⟨sqQ_mono (fun u _ hw => by rw [hev]; exact hw) b1, fun u hu hw => ?_⟩
      rw [hev] at hw
      exact ⟨(b2 u hu hw).1, hV T u _ T (Nat.le_refl _) (b2 u hu hw).2 (fun _ _ => Or.inr trivial)⟩
  · intro T u c q
    obtain ⟨b1, b2⟩ := I.2.2.1 T u c q
    exact ⟨b1, hV T u _ (T + 1) (Nat.le_succ _) b2 (fun _ _ => Or.inr trivial)⟩
  · intro T q j e c k1 k2 k3
    by_cases hT : T = ntm N
    · rw [hT, w3] at k1
      rw [hT, w2] at k2
      exact absurd (sq_lt k1) (by omega)
    · rw [o1 T hT] at q
      rw [o3 T hT] at k1
      rw [o2 T hT] at k2
      obtain ⟨c0, c1', c2'⟩ := I.2.2.2.1 T q j e c k1 k2 k3
      refine ⟨c0, by rw [o3 T hT]; exact c1', fun j' e' m1 m2 m3 => ?_⟩
      rw [o3 T hT] at m2
      obtain ⟨T0, i0, n0, d1, d2, d3, d4, d5⟩ := c2' j' e' m1 m2 m3
      refine ⟨T0, i0, n0, d1, d2, d3, L.K d4, ?_⟩
      rw [o3 T hT]
      exact L.A d4.1 d5
  · intro T c
    obtain ⟨b1, b2, b3⟩ := I.2.2.2.2.1 T c
    refine ⟨L.O b1, b2, fun q => ?_⟩
    by_cases hT : T = ntm N
    · rw [hT, w1] at q
      have hc := Option.some.inj q
      subst hc
      rw [hT, w2]
      exact c1
    · rw [o1 T hT] at q
      rw [o2 T hT]
      exact b3 q
  · intro T u
    by_cases hh : T = ntm N ∧ u = v
    · rw [hh.1, hh.2, w3, w4]
      exact ⟨Nat.le_refl _, fun _ => by rw [w1]; exact Option.some_ne_none _⟩
    · rw [o4 T u hh]
      by_cases hT : T = ntm N
      · rw [hT, hz]
        exact ⟨Nat.zero_le _, fun q => absurd q (Nat.lt_irrefl _)⟩
      · rw [o1 T hT, o3 T hT]
        exact I.2.2.2.2.2.1 T u
  · unfold sqNI
    rw [e1, e2, e3, e4, e5, e6]
    refine ⟨⟨L.O a1, a2⟩, fun T i k1 k2 => ?_, ⟨fun T hT => ?_, a5, a6, fun T hT => ?_⟩, ⟨a8, a9, a10, L.S a11⟩, fun _ => ⟨w1, w3.symm, by rw [w4]; exact Nat.le_refl _, fun u hu => ?_⟩, fun q => (by cases q)⟩
    · by_cases hT : T = ntm N
      · rw [hT, w4] at k2
        rw [hT, w2] at k1
        omega
      · rw [o4 T v (fun q => hT q.1)] at k2
        rw [o2 T hT] at k1
        rw [o3 T hT]
        rcases a3 T i k1 k2 with q | ⟨T'', b1, b2, b3, b4⟩
        · exact Or.inl q
        · exact Or.inr ⟨T'', (L.el b1).1, b2, b3, by rw [(L.el b1).2]; exact b4⟩
    · by_cases hTT : T = ntm N
      · exact Nat.le_of_eq hTT
      · rw [o4 T v (fun q => hTT q.1)] at hT
        exact a4 T hT
    · by_cases hTT : T = ntm N
      · exact Nat.le_of_eq hTT
      · rw [o1 T hTT] at hT
        exact a7 T hT
    · rw [(e7 u).1, (e7 u).2]
      exact ⟨Nat.zero_le _, Nat.succ_le_succ (Nat.zero_le _), Nat.le_refl _⟩
def hApp (h : sqH) (v T : Nat) (l : List sqE) : sqH := (hg0 h, hel h, hLE h, sqU1 (hLg h) T l, hEV h, hvt h, hcl h, sqU2 (hak h) T v l.length)
theorem sq_app (I : sqI h) (a : sqNI h v N) (hr : nro N = 2) {e : sqE} (he : sqT e = ntm N) (hc : ∀ c, sqC e = some c → sqG c ∧ sqJ (sqF (hg0 h) (nlg N)) c ∧ ∀ (j' : Nat) (e' : sqE), (nlg N)[j']? = some e' → sqC e' ≠ none → j' < ncm N) (e1 : ntm N' = ntm N) (e2 : nvo N' = nvo N) (e3 : nlg N' = nlg N ++ [e]) (e4 : nbs N' = nbs N) (e5 : ncm N' = ncm N) (e6 : nro N' = 2) (e7 : nmt N' = nmt N) (e8 : nnx N' = nnx N) (e9 : (nlg N).length < nbs N + 24) : sqI (hApp h v (ntm N) (nlg N ++ [e])) ∧ sqLe v (ntm N) h (hApp h v (ntm N) (nlg N ++ [e])) ∧ sqNI (hApp h v (ntm N) (nlg N ++ [e])) v N' := by
  obtain ⟨⟨a1, a2⟩, a3, ⟨a4, a5, a6, a7⟩, ⟨a8, a9, a10, a11⟩, a12, a13⟩ := a
  obtain ⟨c1, c2, c3, c4⟩ := a12 hr
  have hT : hel h (ntm N) ≠ none := by rw [c1]; exact Option.some_ne_none _
  have w3 : hLg (hApp h v (ntm N) (nlg N ++ [e])) (ntm N) = nlg N ++ [e] := sqU1_at
  have w4 : hak (hApp h v (ntm N) (nlg N ++ [e])) (ntm N) v = (nlg N).length + 1 := by
    refine sqU2_at.trans ?_
    rw [List.length_append]; rfl
  have o3 : ∀ T, T ≠ ntm N → hLg (hApp h v (ntm N) (nlg N ++ [e])) T = hLg h T := fun T q => sqU1_ne q
  have o4 : ∀ T u, ¬ (T = ntm N ∧ u = v) → hak (hApp h v (ntm N) (nlg N ++ [e])) T u = hak h T u := fun T u q => sqU2_ne q
  have hak0 : hak h (ntm N) v = (nlg N).length := by
    have := (I.2.2.2.2.2.1 (ntm N) v).1
    rw [← c2] at this
    omega
  have L : sqLe v (ntm N) h (hApp h v (ntm N) (nlg N ++ [e])) := by
    refine ⟨rfl, fun _ _ q => ⟨q, rfl⟩, fun _ _ q => Or.inl q, ?_, ?_, fun _ _ _ q => q, fun _ _ _ => rfl, fun _ _ _ => rfl, ?_, ?_, ?_⟩
    · intro T q
      by_cases hTT : T = ntm N
      · rw [hTT, w3, ← c2]
        exact sqA_app _ _
      · rw [o3 T hTT]
        exact sqA.refl (Nat.le_refl _)
    · intro T c q hcv
      refine o3 T (fun r => ?_)
      rw [r, c1] at q
      exact hcv (Option.some.inj q).symm
    · intro T u
      by_cases hh : T = ntm N ∧ u = v
      · rw [hh.1, hh.2, w4, hak0]; exact Nat.le_succ _
      · rw [o4 T u hh]; exact Nat.le_refl _
    · intro T u hu
      exact o4 T u (fun q => hu q.2)
    · intro T u i h1 h2
      by_cases hh : T = ntm N ∧ u = v
      · exact Or.inl ⟨hh.2, hh.1⟩
      · rw [o4 T u hh] at h2; exact Or.inr h2
  have hvle : ∀ T c, hvt h T v = some c → T ≤ ntm N := fun T c q => by
    rcases Nat.lt_or_ge (ntm N) T with r | r
    · rw [a5 T r] at q; cases q
    · exact r
  refine ⟨⟨?_, ?_, ?_, ?_, ?_, ?_, I.2.2.2.2.2.2⟩, L, ?_⟩
  · intro T q
    obtain ⟨b1, b2, b3, b4⟩ := I.1 T q
    refine ⟨(L.A q b1.symm).symm, L.O b2, b3, ?_⟩
    intro j f hj hl
    by_cases hTT : T = ntm N
    · rw [hTT, w3] at hj
      rcases Nat.lt_or_ge j (nlg N).length with r | r
      · rw [List.getElem?_append_left r, c2] at hj
        rw [hTT] at hl ⊢
        exact (I.1 (ntm N) hT).2.2.2 j f hj hl
      · have hjl := sq_lt hj
        rw [List.length_append] at hjl
        have : j = (nlg N).length := by simp at hjl; omega
        rw [this, List.getElem?_concat_length] at hj
        rw [← Option.some.inj hj, he, hTT]
    · rw [o3 T hTT] at hj
      exact b4 j f hj hl
  · intro T c q
    obtain ⟨b1, b2⟩ := I.2.1 T c q
    refine ⟨b1, fun u hu hw => ⟨(b2 u hu hw).1, ?_⟩⟩
    have hvu := (b2 u hu hw).1
    intro T0 i k1 k2 k3
    have k3' : i ≤ hak h T0 u := by
      rw [o4] at k3
      · exact k3
      · rintro ⟨r1, r2⟩
        rw [r2] at hvu
        have := hvle _ _ hvu
        omega
    have hT0 := (I.2.2.2.2.2.1 T0 u).2 (by omega)
    rcases (b2 u hu hw).2 T0 i k1 k2 k3' with r | ⟨T'', d1, d2, d3, d4⟩
    · exact Or.inl (L.A hT0 r)
    · refine Or.inr ⟨T'', d1, d2, d3, fun r => d4 (L.A' hT0 ?_ r)⟩
      exact Nat.le_trans k3' (I.2.2.2.2.2.1 T0 u).1
  · intro T u c q
    obtain ⟨b1, b2⟩ := I.2.2.1 T u c q
    refine ⟨b1, sqLe.V I L (fun r => ?_) b2⟩
    rw [r] at q
    exact hvle _ _ q
  · intro T q j f c k1 k2 k3
    by_cases hnew : T = ntm N ∧ j = (nlg N).length
    · obtain ⟨r1, r2⟩ := hnew
      rw [r1, w3, r2, List.getElem?_concat_length] at k1
      have hfe := Option.some.inj k1
      rw [← hfe] at k3
      obtain ⟨g1, g2, g3⟩ := hc c k3
      rw [r1, r2, w3, List.take_left]
      refine ⟨g1, g2, fun j' e' m1 m2 m3 => ?_⟩
      rw [List.getElem?_append_left m1] at m2
      have m4 := g3 j' e' m2 m3
      rcases a11 with z | ⟨T0, i0, n0, d1, d2, d3, d4⟩
      · omega
      · refine ⟨T0, i0, n0, d1, fun z => ?_, by omega, L.K d2, ?_⟩
        · rw [z] at d2
          have := d2.2.2.2.1
          rw [← c2] at this
          exact this
        · have p := sqLC_Lg I hT d2 d1
          rw [← c2] at p
          have p2 := p.trans ((sqA_app (nlg N) [e]).mono p.2.1)
          exact L.A d2.1 p2
    · have k1' : (hLg h T)[j]? = some f := by
        by_cases hTT : T = ntm N
        · rw [hTT, w3] at k1
          rw [hTT, ← c2]
          have hjl := sq_lt k1
          rw [List.length_append] at hjl
          have : j < (nlg N).length := by
            simp at hjl
            rcases Nat.lt_or_ge j (nlg N).length with z | z
            · exact z
            · exact absurd ⟨hTT, by omega⟩ hnew
          rw [List.getElem?_append_left this] at k1
          exact k1
        · rw [o3 T hTT] at k1; exact k1
      obtain ⟨g1, g2, g3⟩ := I.2.2.2.1 T q j f c k1' k2 k3
      have hA := L.Lg q
      have hjl := sq_lt k1'
      refine ⟨g1, ?_, fun j' e' m1 m2 m3 => ?_⟩
      · rw [← (hA.mono (Nat.le_of_lt hjl)).take]; exact g2
      · obtain ⟨T0, i0, n0, d1, d2, d3, d4, d5⟩ := g3 j' e' m1 (hA.symm.get (by omega) m2) m3
        exact ⟨T0, i0, n0, d1, d2, d3, L.K d4, (L.A q (L.A d4.1 d5).symm).symm⟩
  · intro T c
    obtain ⟨b1, b2, b3⟩ := I.2.2.2.2.1 T c
    exact ⟨L.O b1, b2, b3⟩
  · intro T u
    obtain ⟨b1, b2⟩ := I.2.2.2.2.2.1 T u
    by_cases hh : T = ntm N ∧ u = v
    · rw [hh.1, hh.2, w3, w4, List.length_append]
      exact ⟨Nat.le_refl _, fun _ => hT⟩
    · rw [o4 T u hh]
      refine ⟨?_, b2⟩
      rcases Nat.eq_zero_or_pos (hak h T u) with z | z
      · omega
      · exact Nat.le_trans b1 (L.Lg (b2 z)).2.1
  · have hlen : (nlg N ++ [e]).length = (nlg N).length + 1 := by rw [List.length_append]; rfl
    unfold sqNI
    rw [e1, e2, e3, e4, e5, e6, e7, e8]
    refine ⟨⟨?_, ?_⟩, fun T i k1 k2 => ?_, ⟨fun T hT' => ?_, a5, a6, a7⟩, ⟨a8, by omega, by omega, (L.S a11).mv ((sqA_app (nlg N) [e]).mono a9)⟩, fun _ => ⟨c1, w3.symm, by rw [w4, hlen]; exact Nat.le_refl _, fun u hu => ?_⟩, fun q => (by cases q)⟩
    · have := sqO_Lg I hT
      intro j f hj
      rcases Nat.lt_or_ge j (nlg N).length with r | r
      · rw [List.getElem?_append_left r] at hj
        obtain ⟨b1, b2⟩ := a1 j f hj
        exact ⟨b1, ((sqA_app (nlg N) [e]).mono r).symm.trans (L.A b1 b2.symm).symm⟩
      · have hjl := sq_lt hj
        have hje : j = (nlg N).length := by omega
        rw [hje, List.getElem?_concat_length] at hj
        have hfe := Option.some.inj hj
        rw [← hfe, he]
        refine ⟨hT, ?_⟩
        rw [w3]
        exact sqA.refl (by omega)
    · intro j f hj
      rcases Nat.lt_or_ge j (nlg N).length with r | r
      · rw [List.getElem?_append_left r] at hj
        exact a2 j f hj
      · have hjl := sq_lt hj
        have hje : j = (nlg N).length := by omega
        rw [hje, List.getElem?_concat_length] at hj
        have hfe := Option.some.inj hj
        rw [← hfe, he]
        exact Nat.le_refl _
    · by_cases hTT : T = ntm N
      · rw [hTT, w4] at k2
        rw [hTT, w3]
        exact Or.inl (sqA.refl (by omega))
      · rw [o4 T v (fun q => hTT q.1)] at k2
        have hTe := (I.2.2.2.2.2.1 T v).2 (by omega)
        rcases a3 T i k1 k2 with q | ⟨T'', b1, b2, b3, b4⟩
        · exact Or.inl ((L.A hTe q).trans ((sqA_app (nlg N) [e]).mono q.2.1))
        · refine Or.inr ⟨T'', b1, b2, b3, fun r => b4 (L.A' hTe ?_ r)⟩
          exact Nat.le_trans k2 (I.2.2.2.2.2.1 T v).1
    · by_cases hTT : T = ntm N
      · exact Nat.le_of_eq hTT
      · rw [o4 T v (fun q => hTT q.1)] at hT'
        exact a4 T hT'
    · obtain ⟨b1, b2, b3⟩ := c4 u hu
      exact ⟨Nat.le_trans b1 (L.2.2.2.2.2.2.2.2.1 _ _), b2, by omega⟩
end SqWin
