/-! Safety, the nodes: what holds of a node and of a message beside the history, and that it goes on to hold when the history grows by another node's doing. -/
def sqU1 {α : Type} (f : Nat → α) (a : Nat) (x : α) : Nat → α := fun b => if b = a then x else f b
def sqU2 {α : Type} (f : Nat → Nat → α) (a b : Nat) (x : α) : Nat → Nat → α := fun p q => if p = a ∧ q = b then x else f p q
theorem sqU1_at {α : Type} {f : Nat → α} {a : Nat} {x : α} : sqU1 f a x a = x := by simp [sqU1]
theorem sqU1_ne {α : Type} {f : Nat → α} {a b : Nat} {x : α} (h : b ≠ a) : sqU1 f a x b = f b := by simp [sqU1, h]
theorem sqU2_at {α : Type} {f : Nat → Nat → α} {a b : Nat} {x : α} : sqU2 f a b x a b = x := by simp [sqU2]
theorem sqU2_ne {α : Type} {f : Nat → Nat → α} {a b p q : Nat} {x : α} (h : ¬ (p = a ∧ q = b)) : sqU2 f a b x p q = f p q := by simp [sqU2, h]
/-- a node: up, role, term, vote, commit, timer, voters, index of the snapshot, the whole log from index 1 on, next, match, echo -/
abbrev sqN : Type := Bool × Nat × Nat × Option Nat × Nat × Int32 × (Nat → Bool) × Nat × List sqE × (Nat → Nat) × (Nat → Nat) × (Nat → Int)
abbrev nup (N : sqN) := N.1
abbrev nro (N : sqN) := N.2.1
abbrev ntm (N : sqN) := N.2.2.1
abbrev nvo (N : sqN) := N.2.2.2.1
abbrev ncm (N : sqN) := N.2.2.2.2.1
abbrev nti (N : sqN) := N.2.2.2.2.2.1
abbrev nvs (N : sqN) := N.2.2.2.2.2.2.1
abbrev nbs (N : sqN) := N.2.2.2.2.2.2.2.1
abbrev nlg (N : sqN) := N.2.2.2.2.2.2.2.2.1
abbrev nnx (N : sqN) := N.2.2.2.2.2.2.2.2.2.1
abbrev nmt (N : sqN) := N.2.2.2.2.2.2.2.2.2.2.1
abbrev nec (N : sqN) := N.2.2.2.2.2.2.2.2.2.2.2
/-- a message: kind, sender, receiver, term, due, index, flag, told, term before, commit, entries (of a snapshot: all that it stands for) -/
abbrev sqMs : Type := Nat × Nat × Nat × Nat × Nat × Nat × Nat × Nat × Nat × Nat × List sqE
abbrev mki (m : sqMs) := m.1
abbrev mse (m : sqMs) := m.2.1
abbrev mre (m : sqMs) := m.2.2.1
abbrev mtm (m : sqMs) := m.2.2.2.1
abbrev mdu (m : sqMs) := m.2.2.2.2.1
abbrev mix (m : sqMs) := m.2.2.2.2.2.1
abbrev mfl (m : sqMs) := m.2.2.2.2.2.2.1
abbrev mto (m : sqMs) := m.2.2.2.2.2.2.2.1
abbrev mbf (m : sqMs) := m.2.2.2.2.2.2.2.2.1
abbrev mcm (m : sqMs) := m.2.2.2.2.2.2.2.2.2.1
abbrev mes (m : sqMs) := m.2.2.2.2.2.2.2.2.2.2
/-- the term at an index; the result of a log -/
def sqTT (l : List sqE) (i : Nat) : Nat := if i = 0 then 0 else ((l[i - 1]?).map sqT).getD 0
def sqR (l : List sqE) : Int32 := l.foldl (fun r e => if e.2.1 = 0 then 31 * r + e.2.2 else r) 0
theorem sqTT_A {X Y : List sqE} {i j : Nat} (h : sqA X Y i) (hj : j ≤ i) : sqTT X j = sqTT Y j := by
  unfold sqTT
  by_cases h0 : j = 0
  · rw [if_pos h0, if_pos h0]
  · rw [if_neg h0, if_neg h0, h.2.2 (j - 1) (by omega)]
theorem sqTT_some {X : List sqE} {j : Nat} {e : sqE} (h : X[j]? = some e) : sqTT X (j + 1) = sqT e := by
  unfold sqTT
  rw [if_neg (Nat.succ_ne_zero j), Nat.add_sub_cancel, h]
  rfl
/-- a prefix of a log that stays -/
def sqS (h : sqH) (T : Nat) (l : List sqE) (c : Nat) : Prop := c = 0 ∨ ∃ T0 i0 n0, T0 ≤ T ∧ sqK h T0 i0 n0 ∧ c ≤ i0 ∧ sqA (hLg h T0) l c
def sqNI (h : sqH) (v : Nat) (N : sqN) : Prop :=
  (sqO h (nlg N) ∧ ∀ (j : Nat) (e : sqE), (nlg N)[j]? = some e → sqT e ≤ ntm N) ∧
  (∀ T i, (hLE h T).length < i → i ≤ hak h T v → sqA (hLg h T) (nlg N) i ∨ ∃ T'', hel h T'' ≠ none ∧ T < T'' ∧ T'' ≤ ntm N ∧ ¬ sqA (hLg h T) (hLE h T'') i) ∧
  ((∀ T, 0 < hak h T v → T ≤ ntm N) ∧ (∀ T, ntm N < T → hvt h T v = none) ∧ hvt h (ntm N) v = nvo N ∧ ∀ T, hel h T = some v → T ≤ ntm N) ∧
  (nbs N ≤ ncm N ∧ ncm N ≤ (nlg N).length ∧ (nlg N).length ≤ nbs N + 24 ∧ sqS h (ntm N) (nlg N) (ncm N)) ∧
  (nro N = 2 → hel h (ntm N) = some v ∧ nlg N = hLg h (ntm N) ∧ (nlg N).length ≤ hak h (ntm N) v ∧ ∀ u, u < 5 → nmt N u ≤ hak h (ntm N) u ∧ 1 ≤ nnx N u ∧ nnx N u ≤ (nlg N).length + 1) ∧
  (nro N = 1 → nlg N = hcl h (ntm N) v ∧ hvt h (ntm N) v = some v ∧ hel h (ntm N) ≠ some v ∧ ∀ u, u < 5 → nvs N u = true → hvt h (ntm N) u = some v)
def sqMI (h : sqH) (m : sqMs) : Prop :=
  (mse m < 5 ∧ mre m < 5 ∧ mki m ≤ 4) ∧
  (mki m = 0 → mix m = (hcl h (mtm m) (mse m)).length ∧ mfl m = sqTT (hcl h (mtm m) (mse m)) (hcl h (mtm m) (mse m)).length ∧ hvt h (mtm m) (mse m) = some (mse m)) ∧
  (mki m = 1 → mfl m = 1 → hvt h (mtm m) (mse m) = some (mre m)) ∧
  (mki m = 2 → hel h (mtm m) = some (mse m) ∧ mix m ≤ (hLg h (mtm m)).length ∧ mbf m = sqTT (hLg h (mtm m)) (mix m) ∧ (∀ (k : Nat) (e : sqE), (mes m)[k]? = some e → (hLg h (mtm m))[mix m + k]? = some e) ∧ (mes m).length ≤ 4 ∧ mfl m = (mes m).length ∧ mcm m ≤ (hLg h (mtm m)).length ∧ sqS h (mtm m) (hLg h (mtm m)) (mcm m)) ∧
  (mki m = 3 → mfl m = 1 → hel h (mtm m) = some (mre m) ∧ mix m ≤ hak h (mtm m) (mse m)) ∧
  (mki m = 4 → hel h (mtm m) = some (mse m) ∧ mix m ≤ (hLg h (mtm m)).length ∧ sqS h (mtm m) (hLg h (mtm m)) (mix m) ∧ mfl m = sqTT (hLg h (mtm m)) (mix m) ∧ mes m = (hLg h (mtm m)).take (mix m))
/-- the history grows by the doing of node v in its term t -/
def sqLe (v t : Nat) (h h' : sqH) : Prop :=
  hg0 h' = hg0 h ∧
  (∀ T c, hel h T = some c → hel h' T = some c ∧ hLE h' T = hLE h T) ∧
  (∀ T c, hel h' T = some c → hel h T = some c ∨ (c = v ∧ hel h T = none)) ∧
  (∀ T, hel h T ≠ none → sqA (hLg h T) (hLg h' T) (hLg h T).length) ∧
  (∀ T c, hel h T = some c → c ≠ v → hLg h' T = hLg h T) ∧
  (∀ T u c, hvt h T u = some c → hvt h' T u = some c) ∧
  (∀ T u, u ≠ v → hvt h' T u = hvt h T u) ∧
  (∀ T c, hvt h T c = some c → hcl h' T c = hcl h T c) ∧
  (∀ T u, hak h T u ≤ hak h' T u) ∧
  (∀ T u, u ≠ v → hak h' T u = hak h T u) ∧
  (∀ T u i, (hLE h' T).length < i → i ≤ hak h' T u → (u = v ∧ T = t) ∨ i ≤ hak h T u)
section SqLe
variable {h h' : sqH} {v t : Nat}
theorem sqLe.rf : sqLe v t h h := ⟨rfl, fun _ _ q => ⟨q, rfl⟩, fun _ _ q => Or.inl q, fun _ _ => sqA.refl (Nat.le_refl _), fun _ _ _ _ => rfl, fun _ _ _ q => q, fun _ _ _ => rfl, fun _ _ _ => rfl, fun _ _ => Nat.le_refl _, fun _ _ _ => rfl, fun _ _ _ _ q => Or.inr q⟩
theorem sqLe.el (L : sqLe v t h h') {T : Nat} (q : hel h T ≠ none) : hel h' T ≠ none ∧ hLE h' T = hLE h T := by
  obtain ⟨c, hc⟩ := Option.ne_none_iff_exists'.mp q
  obtain ⟨a, b⟩ := L.2.1 T c hc
  exact ⟨by rw [a]; exact Option.some_ne_none _, b⟩
theorem sqLe.Lg (L : sqLe v t h h') {T : Nat} (q : hel h T ≠ none) : sqA (hLg h T) (hLg h' T) (hLg h T).length := L.2.2.2.1 T q
theorem sqLe.A (L : sqLe v t h h') {T i : Nat} {X : List sqE} (q : hel h T ≠ none) (a : sqA (hLg h T) X i) : sqA (hLg h' T) X i := ((L.Lg q).mono a.1).symm.trans a
theorem sqLe.A' (L : sqLe v t h h') {T i : Nat} {X : List sqE} (q : hel h T ≠ none) (hi : i ≤ (hLg h T).length) (a : sqA (hLg h' T) X i) : sqA (hLg h T) X i := ((L.Lg q).mono hi).trans a
theorem sqLe.K (L : sqLe v t h h') {T i n : Nat} (k : sqK h T i n) : sqK h' T i n := by
  obtain ⟨a1, a2, a3, a4, a5⟩ := k
  have b := L.Lg a1
  refine ⟨(L.el a1).1, by rw [(L.el a1).2]; exact a2, a3, Nat.le_trans a4 b.2.1, ?_⟩
  rw [L.1, ← (b.mono a4).take]
  refine sqQ_mono (fun u _ hu => ?_) a5
  exact decide_eq_true (Nat.le_trans (of_decide_eq_true hu) (L.2.2.2.2.2.2.2.2.1 T u))
theorem sqLe.O (L : sqLe v t h h') {X : List sqE} (a : sqO h X) : sqO h' X := fun j e hj => by
  obtain ⟨b1, b2⟩ := a j e hj
  exact ⟨(L.el b1).1, (L.A b1 b2.symm).symm⟩
theorem sqLe.S (L : sqLe v t h h') {T c : Nat} {X : List sqE} (a : sqS h T X c) : sqS h' T X c := by
  rcases a with a | ⟨T0, i0, n0, a1, a2, a3, a4⟩
  · exact Or.inl a
  · exact Or.inr ⟨T0, i0, n0, a1, L.K a2, a3, L.A a2.1 a4⟩
theorem sqS.up {T T' c : Nat} {X : List sqE} (a : sqS h T X c) (hT : T ≤ T') : sqS h T' X c := by
  rcases a with a | ⟨T0, i0, n0, a1, a2, a3, a4⟩
  · exact Or.inl a
  · exact Or.inr ⟨T0, i0, n0, Nat.le_trans a1 hT, a2, a3, a4⟩
theorem sqS.mv {T c : Nat} {X Y : List sqE} (a : sqS h T X c) (hA : sqA X Y c) : sqS h T Y c := by
  rcases a with a | ⟨T0, i0, n0, a1, a2, a3, a4⟩
  · exact Or.inl a
  · exact Or.inr ⟨T0, i0, n0, a1, a2, a3, a4.trans hA⟩
theorem sqS.mono {T c c' : Nat} {X : List sqE} (a : sqS h T X c) (hc : c' ≤ c) : sqS h T X c' := by
  rcases a with a | ⟨T0, i0, n0, a1, a2, a3, a4⟩
  · exact Or.inl (by omega)
  · exact Or.inr ⟨T0, i0, n0, a1, a2, Nat.le_trans hc a3, a4.mono hc⟩
/-- what stays is in the log of every later term -/
theorem sqS.Lg (I : sqI h) {T c : Nat} {X : List sqE} (a : sqS h T X c) (hT : hel h T ≠ none) : sqA X (hLg h T) c := by
  rcases a with a | ⟨T0, i0, n0, a1, a2, a3, a4⟩
  · subst a; exact sqA.zero
  · exact a4.symm.trans ((sqLC_Lg I hT a2 a1).mono a3)
/-- the disjunction of what a node acknowledged goes on to hold -/
theorem sqLe.D (I : sqI h) (L : sqLe v t h h') {T i u B : Nat} {X : List sqE} (hi0 : 0 < i) (hi : i ≤ hak h T u) (a : sqA (hLg h T) X i ∨ ∃ T'', hel h T'' ≠ none ∧ T < T'' ∧ T'' ≤ B ∧ ¬ sqA (hLg h T) (hLE h T'') i) : sqA (hLg h' T) X i ∨ ∃ T'', hel h' T'' ≠ none ∧ T < T'' ∧ T'' ≤ B ∧ ¬ sqA (hLg h' T) (hLE h' T'') i := by
  have b := I.2.2.2.2.2.1 T u
  have he := b.2 (Nat.lt_of_lt_of_le hi0 hi)
  rcases a with a | ⟨T'', a1, a2, a3, a4⟩
  · exact Or.inl (L.A he a)
  · refine Or.inr ⟨T'', (L.el a1).1, a2, a3, fun q => a4 ?_⟩
    rw [(L.el a1).2] at q
    exact L.A' he (Nat.le_trans hi b.1) q
theorem sqLe.V (I : sqI h) (L : sqLe v t h h') {T u B : Nat} {X : List sqE} (hu : u = v → T ≤ t) (a : sqV h T u X (B + 1)) : sqV h' T u X (B + 1) := by
  intro T0 i h1 h2 h3
  have h4 : i ≤ hak h T0 u := by
    rcases L.2.2.2.2.2.2.2.2.2.2 T0 u i h2 h3 with ⟨q1, q2⟩ | q
    · have := hu q1; omega
    · exact q
  have he := (I.2.2.2.2.2.1 T0 u).2 (by omega)
  rw [(L.el he).2] at h2
  have c := sqLe.D I L (u := u) (B := B) (X := X) (by omega) h4 ((a T0 i h1 h2 h4).imp id (fun ⟨T'', b1, b2, b3, b4⟩ => ⟨T'', b1, b2, by omega, b4⟩))
  exact c.imp id (fun ⟨T'', b1, b2, b3, b4⟩ => ⟨T'', b1, b2, by omega, b4⟩)
theorem sqNI.keep (I : sqI h) (L : sqLe v t h h') {u : Nat} (hu : u ≠ v) {N : sqN} (a : sqNI h u N) : sqNI h' u N := by
  obtain ⟨⟨a1, a2⟩, a3, ⟨a4, a5, a6, a7⟩, ⟨a8, a9, a10, a11⟩, a12, a13⟩ := a
  have hak' := fun T => L.2.2.2.2.2.2.2.2.2.1 T u hu
  have hvt' := fun T => L.2.2.2.2.2.2.1 T u hu
  refine ⟨⟨L.O a1, a2⟩, ?_, ⟨?_, ?_, ?_, ?_⟩, ⟨a8, a9, a10, L.S a11⟩, ?_, ?_⟩
  · intro T i h1 h2
    rw [hak'] at h2
    have he := (I.2.2.2.2.2.1 T u).2 (by omega)
    rw [(L.el he).2] at h1
    exact sqLe.D I L (u := u) (by omega) h2 (a3 T i h1 h2)
  · intro T hT
    rw [hak'] at hT
    exact a4 T hT
  · intro T hT
    rw [hvt']; exact a5 T hT
  · rw [hvt']; exact a6
  · intro T hT
    rcases L.2.2.1 T u hT with q | ⟨q, -⟩
    · exact a7 T q
    · exact absurd q hu
  · intro hr
    obtain ⟨b1, b2, b3, b4⟩ := a12 hr
    refine ⟨(L.2.1 _ _ b1).1, ?_, ?_, ?_⟩
    · rw [L.2.2.2.2.1 _ _ b1 hu]; exact b2
    · rw [hak']; exact b3
    · intro w hw
      obtain ⟨c1, c2⟩ := b4 w hw
      exact ⟨Nat.le_trans c1 (L.2.2.2.2.2.2.2.2.1 _ w), c2⟩
  · intro hr
    obtain ⟨b1, b2, b3, b4⟩ := a13 hr
    refine ⟨?_, ?_, ?_, ?_⟩
    · rw [L.2.2.2.2.2.2.2.1 _ _ b2]; exact b1
    · rw [hvt']; exact b2
    · intro q
      rcases L.2.2.1 _ u q with q | ⟨q, -⟩
      · exact b3 q
      · exact hu q
    · intro w hw hx
      exact L.2.2.2.2.2.1 _ _ _ (b4 w hw hx)
theorem sqMI.keep (L : sqLe v t h h') {m : sqMs} (a : sqMI h m) : sqMI h' m := by
  obtain ⟨a0, a1, a2, a3, a4, a5⟩ := a
  refine ⟨a0, ?_, ?_, ?_, ?_, ?_⟩
  · intro hk
    obtain ⟨b1, b2, b3⟩ := a1 hk
    rw [L.2.2.2.2.2.2.2.1 _ _ b3]
    exact ⟨b1, b2, L.2.2.2.2.2.1 _ _ _ b3⟩
  · intro hk hf
    exact L.2.2.2.2.2.1 _ _ _ (a2 hk hf)
  · intro hk
    obtain ⟨b1, b2, b3, b4, b5, b6, b7, b8⟩ := a3 hk
    have he : hel h (mtm m) ≠ none := by rw [b1]; exact Option.some_ne_none _
    have c := L.Lg he
    refine ⟨(L.2.1 _ _ b1).1, Nat.le_trans b2 c.2.1, ?_, ?_, b5, b6, Nat.le_trans b7 c.2.1, (L.S b8).mv (c.mono b7)⟩
    · rw [b3]; exact sqTT_A c b2
    · intro k e hk
      have := b4 k e hk
      exact c.get (sq_lt this) this
  · intro hk hf
    obtain ⟨b1, b2⟩ := a4 hk hf
    exact ⟨(L.2.1 _ _ b1).1, Nat.le_trans b2 (L.2.2.2.2.2.2.2.2.1 _ _)⟩
  · intro hk
    obtain ⟨b1, b2, b3, b4, b5⟩ := a5 hk
    have he : hel h (mtm m) ≠ none := by rw [b1]; exact Option.some_ne_none _
    have c := L.Lg he
    refine ⟨(L.2.1 _ _ b1).1, Nat.le_trans b2 c.2.1, (L.S b3).mv (c.mono b2), ?_, ?_⟩
    · rw [b4]; exact sqTT_A c b2
    · rw [b5, (c.mono b2).take]
end SqLe
