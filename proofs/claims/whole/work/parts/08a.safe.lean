/-! Safety of the simulated logs, apart from machine and programs: entries, agreement of logs, configurations, quorums; the history of leaders, votes and acknowledgements; a new leader has all that is committed, and a term has one leader. -/
abbrev sqE : Type := Nat × Nat × Int32
def sqT (e : sqE) : Nat := e.1
def sqC (e : sqE) : Option (Nat × Nat) := if e.2.1 = 1 then some (e.2.2.toNatClampNeg / 32, e.2.2.toNatClampNeg % 32) else if e.2.1 = 2 then some (0, e.2.2.toNatClampNeg % 32) else none
def sqF (g : Nat) (l : List sqE) : Nat × Nat := l.foldl (fun c e => (sqC e).getD c) (0, g)
theorem sqF_snoc (g : Nat) (l : List sqE) (e : sqE) : sqF g (l ++ [e]) = (sqC e).getD (sqF g l) := by
  simp [sqF, List.foldl_append]
/-- two logs agree up to an index -/
def sqA (X Y : List sqE) (i : Nat) : Prop := i ≤ X.length ∧ i ≤ Y.length ∧ ∀ j, j < i → X[j]? = Y[j]?
section SqA
variable {X Y Z : List sqE} {i j d : Nat}
theorem sqA.symm (h : sqA X Y i) : sqA Y X i := ⟨h.2.1, h.1, fun j hj => (h.2.2 j hj).symm⟩
theorem sqA.trans (h : sqA X Y i) (k : sqA Y Z i) : sqA X Z i := ⟨h.1, k.2.1, fun j hj => (h.2.2 j hj).trans (k.2.2 j hj)⟩
theorem sqA.mono (h : sqA X Y i) (hj : j ≤ i) : sqA X Y j := ⟨Nat.le_trans hj h.1, Nat.le_trans hj h.2.1, fun n hn => h.2.2 n (Nat.lt_of_lt_of_le hn hj)⟩
theorem sqA.refl (h : i ≤ X.length) : sqA X X i := ⟨h, h, fun _ _ => rfl⟩
theorem sqA.zero : sqA X Y 0 := ⟨Nat.zero_le _, Nat.zero_le _, fun j hj => absurd hj (Nat.not_lt_zero j)⟩
theorem sqA.take (h : sqA X Y i) : X.take i = Y.take i := by
  apply List.ext_getElem?
  intro n
  rw [List.getElem?_take, List.getElem?_take]
  by_cases hn : n < i
  · rw [if_pos hn, if_pos hn]; exact h.2.2 n hn
  · rw [if_neg hn, if_neg hn]
theorem sqA.get (h : sqA X Y i) (hj : j < i) {e : sqE} (he : X[j]? = some e) : Y[j]? = some e := (h.2.2 j hj).symm.trans he
theorem sqA_max (h : ¬ sqA X Y i) : ∃ d, d < i ∧ sqA X Y d ∧ ¬ sqA X Y (d + 1) := by
  induction i with
  | zero => exact absurd sqA.zero h
  | succ n ih =>
    by_cases hn : sqA X Y n
    · exact ⟨n, Nat.lt_succ_self n, hn, h⟩
    · obtain ⟨d, h1, h2, h3⟩ := ih hn
      exact ⟨d, Nat.lt_succ_of_lt h1, h2, h3⟩
theorem sqA_app (L : List sqE) (s : List sqE) : sqA L (L ++ s) L.length := ⟨Nat.le_refl _, by simp, fun j hj => by rw [List.getElem?_append_left hj]⟩
theorem sq_lt {e : sqE} (h : X[j]? = some e) : j < X.length := (List.getElem?_eq_some_iff.mp h).1
end SqA
/-- the configuration behind a place: none new, or one, or one after others -/
theorem sqF_cases (g : Nat) (X : List sqE) (d : Nat) : ∀ n, d ≤ n → n ≤ X.length → sqF g (X.take n) = sqF g (X.take d) ∨ ∃ (j : Nat) (e : sqE) (c : Nat × Nat), d ≤ j ∧ j < n ∧ X[j]? = some e ∧ sqC e = some c ∧ sqF g (X.take n) = c ∧ (sqF g (X.take j) = sqF g (X.take d) ∨ ∃ (j' : Nat) (e' : sqE), d ≤ j' ∧ j' < j ∧ X[j']? = some e' ∧ sqC e' ≠ none) := by
  intro n
  induction n with
  | zero =>
    intro h _
    have : d = 0 := Nat.le_zero.mp h
    subst this
    exact Or.inl rfl
  | succ n ih =>
    intro h1 h2
    rcases Nat.lt_or_ge n d with hd | hd
    · have : d = n + 1 := Nat.le_antisymm h1 hd
      subst this
      exact Or.inl rfl
    · have hlt : n < X.length := h2
      have e1 : sqF g (X.take (n + 1)) = (sqC X[n]).getD (sqF g (X.take n)) := by
        rw [List.take_succ_eq_append_getElem hlt, sqF_snoc]
      have e2 : X[n]? = some X[n] := List.getElem?_eq_getElem hlt
      have hi := ih hd (Nat.le_of_lt hlt)
      cases hc : sqC X[n] with
      | none =>
        rw [hc] at e1
        rw [e1]
        rcases hi with h | ⟨j, e, c, a1, a2, a3, a4, a5, a6⟩
        · exact Or.inl h
        · exact Or.inr ⟨j, e, c, a1, Nat.lt_succ_of_lt a2, a3, a4, a5, a6⟩
      | some c =>
        rw [hc] at e1
        refine Or.inr ⟨n, X[n], c, hd, Nat.lt_succ_self n, e2, hc, e1, ?_⟩
        rcases hi with h | ⟨j, e, c', a1, a2, a3, a4, a5, a6⟩
        · exact Or.inl h
        · exact Or.inr ⟨j, e, a1, a2, a3, by rw [a4]; simp⟩
/-- quorums -/
def sqM (g : Nat) (W : Nat → Bool) : Prop := (List.range 5).countP (fun v => g.testBit v) < 2 * (List.range 5).countP (fun v => g.testBit v && W v)
def sqQ (c : Nat × Nat) (W : Nat → Bool) : Prop := sqM c.2 W ∧ (c.1 = 0 ∨ sqM c.1 W)
theorem sq_count (g W V : Nat → Bool) (l : List Nat) : l.countP (fun v => g v && W v) + l.countP (fun v => g v && V v) ≤ l.countP g + l.countP (fun v => W v && V v) := by
  induction l with
  | nil => simp
  | cons a l ih =>
    simp only [List.countP_cons]
    cases g a <;> cases W a <;> cases V a <;> simp <;> omega
theorem sqM_int {g : Nat} {W V : Nat → Bool} (h1 : sqM g W) (h2 : sqM g V) : ∃ v, v < 5 ∧ W v = true ∧ V v = true := by
  have h := sq_count (fun v => g.testBit v) W V (List.range 5)
  have h3 : 0 < (List.range 5).countP (fun v => W v && V v) := by
    unfold sqM at h1 h2
    omega
  obtain ⟨v, hv, hp⟩ := List.countP_pos_iff.mp h3
  rw [Bool.and_eq_true] at hp
  exact ⟨v, List.mem_range.mp hv, hp.1, hp.2⟩
theorem sqM_mono {g : Nat} {W V : Nat → Bool} (h : ∀ v, v < 5 → W v = true → V v = true) (h1 : sqM g W) : sqM g V := by
  have : (List.range 5).countP (fun v => g.testBit v && W v) ≤ (List.range 5).countP (fun v => g.testBit v && V v) := by
    apply List.countP_mono_left
    intro x hx hp
    rw [Bool.and_eq_true] at hp ⊢
    exact ⟨hp.1, h x (List.mem_range.mp hx) hp.2⟩
  unfold sqM at h1 ⊢
  omega
theorem sqQ_mono {c : Nat × Nat} {W V : Nat → Bool} (h : ∀ v, v < 5 → W v = true → V v = true) (h1 : sqQ c W) : sqQ c V := ⟨sqM_mono h h1.1, h1.2.imp id (sqM_mono h)⟩
/-- which configuration may follow which -/
def sqJ (c c' : Nat × Nat) : Prop := (c.1 = 0 ∧ c'.1 = c.2 ∧ c'.1 ≠ 0) ∨ (c.1 ≠ 0 ∧ c'.1 = 0 ∧ c'.2 = c.2)
theorem sqQ_eq {c : Nat × Nat} {W V : Nat → Bool} (h1 : sqQ c W) (h2 : sqQ c V) : ∃ v, v < 5 ∧ W v = true ∧ V v = true := sqM_int h1.1 h2.1
theorem sqQ_next {c c' : Nat × Nat} {W V : Nat → Bool} (h : sqJ c c') (h1 : sqQ c W) (h2 : sqQ c' V) : ∃ v, v < 5 ∧ W v = true ∧ V v = true := by
  rcases h with ⟨a, b, e⟩ | ⟨a, b, e⟩
  · exact sqM_int h1.1 (b ▸ h2.2.resolve_left e)
  · exact sqM_int h1.1 (e ▸ h2.1)
theorem sqQ_fork {c0 c c' : Nat × Nat} {W V : Nat → Bool} (h : sqJ c0 c) (h' : sqJ c0 c') (h1 : sqQ c W) (h2 : sqQ c' V) : ∃ v, v < 5 ∧ W v = true ∧ V v = true := by
  rcases h with ⟨a, b, e⟩ | ⟨a, b, e⟩
  · rcases h' with ⟨a', b', e'⟩ | ⟨a', b', e'⟩
    · exact sqM_int (b ▸ h1.2.resolve_left e) (b' ▸ h2.2.resolve_left e')
    · exact absurd a a'
  · rcases h' with ⟨a', b', e'⟩ | ⟨a', b', e'⟩
    · exact absurd a' a
    · exact sqM_int (e ▸ h1.1) (e' ▸ h2.1)
/-- the history: the first group; who was elected in a term; its log then; the log of the term; whose votes it had; votes; logs of candidates; acknowledged indexes -/
abbrev sqH : Type := Nat × (Nat → Option Nat) × (Nat → List sqE) × (Nat → List sqE) × (Nat → Nat → Bool) × (Nat → Nat → Option Nat) × (Nat → Nat → List sqE) × (Nat → Nat → Nat)
abbrev hg0 (h : sqH) := h.1
abbrev hel (h : sqH) := h.2.1
abbrev hLE (h : sqH) := h.2.2.1
abbrev hLg (h : sqH) := h.2.2.2.1
abbrev hEV (h : sqH) := h.2.2.2.2.1
abbrev hvt (h : sqH) := h.2.2.2.2.2.1
abbrev hcl (h : sqH) := h.2.2.2.2.2.2.1
abbrev hak (h : sqH) := h.2.2.2.2.2.2.2
/-- evidence that the leader of a term has committed up to an index, with its configuration at some length -/
def sqK (h : sqH) (T i n : Nat) : Prop := hel h T ≠ none ∧ (hLE h T).length < i ∧ i ≤ n ∧ n ≤ (hLg h T).length ∧ sqQ (sqF (hg0 h) ((hLg h T).take n)) (fun v => decide (i ≤ hak h T v))
/-- each prefix of a log is one of the log of the term of its last entry -/
def sqO (h : sqH) (L : List sqE) : Prop := ∀ (j : Nat) (e : sqE), L[j]? = some e → hel h (sqT e) ≠ none ∧ sqA L (hLg h (sqT e)) (j + 1)
/-- what a voter's candidate has of that which the voter acknowledged before -/
def sqV (h : sqH) (T' v : Nat) (Y : List sqE) (B : Nat) : Prop := ∀ T i, T < T' → (hLE h T).length < i → i ≤ hak h T v → sqA (hLg h T) Y i ∨ ∃ T'', hel h T'' ≠ none ∧ T < T'' ∧ T'' < B ∧ ¬ sqA (hLg h T) (hLE h T'') i
def sq1 (h : sqH) : Prop := ∀ T, hel h T ≠ none → sqA (hLE h T) (hLg h T) (hLE h T).length ∧ sqO h (hLE h T) ∧ (∀ (j : Nat) (e : sqE), (hLE h T)[j]? = some e → sqT e < T) ∧ (∀ (j : Nat) (e : sqE), (hLg h T)[j]? = some e → (hLE h T).length ≤ j → sqT e = T)
def sq2 (h : sqH) : Prop := ∀ T c, hel h T = some c → sqQ (sqF (hg0 h) (hLE h T)) (hEV h T) ∧ ∀ v, v < 5 → hEV h T v = true → hvt h T v = some c ∧ sqV h T v (hLE h T) T
def sq3 (h : sqH) : Prop := ∀ T v c, hvt h T v = some c → hvt h T c = some c ∧ sqV h T v (hcl h T c) (T + 1)
def sqG (c : Nat × Nat) : Prop := c.1 < 32 ∧ 0 < c.2 ∧ c.2 < 32
def sq4 (h : sqH) : Prop := ∀ T, hel h T ≠ none → ∀ (j : Nat) (e : sqE) (c : Nat × Nat), (hLg h T)[j]? = some e → (hLE h T).length ≤ j → sqC e = some c → sqG c ∧ sqJ (sqF (hg0 h) ((hLg h T).take j)) c ∧ ∀ (j' : Nat) (e' : sqE), j' < j → (hLg h T)[j']? = some e' → sqC e' ≠ none → ∃ T0 i0 n0, T0 ≤ T ∧ (T0 = T → n0 ≤ j) ∧ j' < i0 ∧ sqK h T0 i0 n0 ∧ sqA (hLg h T0) (hLg h T) i0
def sq5 (h : sqH) : Prop := ∀ T c, sqO h (hcl h T c) ∧ (∀ (j : Nat) (e : sqE), (hcl h T c)[j]? = some e → sqT e < T) ∧ (hel h T = some c → hLE h T = hcl h T c)
def sq6 (h : sqH) : Prop := ∀ T v, hak h T v ≤ (hLg h T).length ∧ (0 < hak h T v → hel h T ≠ none)
def sqI (h : sqH) : Prop := sq1 h ∧ sq2 h ∧ sq3 h ∧ sq4 h ∧ sq5 h ∧ sq6 h ∧ 0 < hg0 h ∧ hg0 h < 32
/-- a log has all that was committed in earlier terms -/
def sqL (h : sqH) (T' : Nat) (Y : List sqE) : Prop := ∀ T i n, sqK h T i n → T < T' → sqA (hLg h T) Y i
section SqI
variable {h : sqH}
theorem sqK.le {T i n : Nat} (k : sqK h T i n) : i ≤ (hLg h T).length := Nat.le_trans k.2.2.1 k.2.2.2.1
theorem sqO_Lg (I : sqI h) {T : Nat} (hT : hel h T ≠ none) : sqO h (hLg h T) := by
  intro j e hj
  obtain ⟨a1, a2, a3, a4⟩ := I.1 T hT
  rcases Nat.lt_or_ge j (hLE h T).length with hd | hd
  · have he : (hLE h T)[j]? = some e := (a1.2.2 j hd).trans hj
    obtain ⟨b1, b2⟩ := a2 j e he
    exact ⟨b1, (a1.mono hd).symm.trans b2⟩
  · have : sqT e = T := a4 j e hj hd
    rw [this]
    exact ⟨hT, sqA.refl (sq_lt hj)⟩
/-- an entry of a term stands behind the log at the election of that term -/
theorem sqO_own (I : sqI h) {L : List sqE} (hO : sqO h L) {j : Nat} {e : sqE} (hj : L[j]? = some e) : (hLE h (sqT e)).length ≤ j := by
  obtain ⟨b1, b2⟩ := hO j e hj
  obtain ⟨a1, a2, a3, a4⟩ := I.1 _ b1
  rcases Nat.lt_or_ge j (hLE h (sqT e)).length with hd | hd
  · have he : (hLg h (sqT e))[j]? = some e := b2.get (Nat.lt_succ_self j) hj
    have he2 : (hLE h (sqT e))[j]? = some e := (a1.2.2 j hd).trans he
    exact absurd (a3 j e he2) (Nat.lt_irrefl _)
  · exact hd
theorem sqLg_le (I : sqI h) {T : Nat} (hT : hel h T ≠ none) {j : Nat} {e : sqE} (hj : (hLg h T)[j]? = some e) : sqT e ≤ T := by
  obtain ⟨a1, a2, a3, a4⟩ := I.1 T hT
  rcases Nat.lt_or_ge j (hLE h T).length with hd | hd
  · exact Nat.le_of_lt (a3 j e ((a1.2.2 j hd).trans hj))
  · exact Nat.le_of_eq (a4 j e hj hd)
/-- terms do not fall in a log -/
theorem sqO_mono (I : sqI h) {L : List sqE} (hO : sqO h L) {i j : Nat} {e f : sqE} (hj : L[j]? = some e) (hij : i ≤ j) (hi : L[i]? = some f) : sqT f ≤ sqT e := by
  obtain ⟨b1, b2⟩ := hO j e hj
  exact sqLg_le I b1 (b2.get (Nat.lt_succ_of_le hij) hi)
/-- where two logs have entries of one term, they agree up to there -/
theorem sqO_match {L M : List sqE} (hL : sqO h L) (hM : sqO h M) {j : Nat} {e f : sqE} (hj : L[j]? = some e) (hf : M[j]? = some f) (ht : sqT e = sqT f) : sqA L M (j + 1) := by
  have b := (hL j e hj).2
  have c := (hM j f hf).2
  rw [← ht] at c
  exact b.trans c.symm
theorem sq4x (I : sqI h) {L : List sqE} (hO : sqO h L) {j : Nat} {e : sqE} {c : Nat × Nat} (hj : L[j]? = some e) (hc : sqC e = some c) : sqG c ∧ sqJ (sqF (hg0 h) (L.take j)) c ∧ ∀ (j' : Nat) (e' : sqE), j' < j → L[j']? = some e' → sqC e' ≠ none → ∃ T0 i0 n0, T0 ≤ sqT e ∧ (T0 = sqT e → n0 ≤ j) ∧ j' < i0 ∧ sqK h T0 i0 n0 ∧ sqA (hLg h T0) L (j' + 1) := by
  obtain ⟨b1, b2⟩ := hO j e hj
  obtain ⟨c0, c1, c2⟩ := I.2.2.2.1 _ b1 j e c (b2.get (Nat.lt_succ_self j) hj) (sqO_own I hO hj) hc
  refine ⟨c0, ?_, ?_⟩
  · rw [(b2.mono (Nat.le_succ j)).take]; exact c1
  · intro j' e' h1 h2 h3
    obtain ⟨T0, i0, n0, d1, d2, d3, d4, d5⟩ := c2 j' e' h1 (b2.get (Nat.lt_succ_of_lt h1) h2) h3
    exact ⟨T0, i0, n0, d1, d2, d3, d4, (d5.mono d3).trans (b2.mono (Nat.succ_le_succ (Nat.le_of_lt h1))).symm⟩
theorem sqQ_near {c0 c c' : Nat × Nat} {W V : Nat → Bool} (h : c = c0 ∨ sqJ c0 c) (h' : c' = c0 ∨ sqJ c0 c') (h1 : sqQ c W) (h2 : sqQ c' V) : ∃ v, v < 5 ∧ W v = true ∧ V v = true := by
  rcases h with rfl | h
  · rcases h' with rfl | h'
    · exact sqQ_eq h1 h2
    · exact sqQ_next h' h1 h2
  · rcases h' with rfl | h'
    · obtain ⟨v, a, b, c⟩ := sqQ_next h h2 h1
      exact ⟨v, a, c, b⟩
    · exact sqQ_fork h h' h1 h2
/-- a log with a quorum of voters of its own configuration has all that was committed before -/
theorem sqL_gen (I : sqI h) {T' B : Nat} {Y : List sqE} {W : Nat → Bool} (hB : T' ≤ B) (hQ : sqQ (sqF (hg0 h) Y) W) (hW : ∀ v, v < 5 → W v = true → sqV h T' v Y B) (hO : sqO h Y) (hYt : ∀ (j : Nat) (e : sqE), Y[j]? = some e → sqT e < T') (hLs : ∀ T'', hel h T'' ≠ none → T'' < B → sqL h T'' (hLE h T'')) : sqL h T' Y := by
  have key : ∀ T, T < T' → ∀ n i, sqK h T i n → sqA (hLg h T) Y i := by
    intro T
    induction T using Nat.strongRecOn with
    | _ T ihT =>
    intro hT n
    induction n using Nat.strongRecOn with
    | _ n ihn =>
    intro i hC
    refine Classical.byContradiction fun hne => ?_
    have hTe : hel h T ≠ none := hC.1
    have hLT : ∀ T0 i0 n0, sqK h T0 i0 n0 → T0 < T → sqA (hLg h T0) (hLg h T) i0 := fun T0 i0 n0 k0 h0 => by
      have := hLs T hTe (Nat.lt_of_lt_of_le hT hB) T0 i0 n0 k0 h0
      exact this.trans ((I.1 T hTe).1.mono this.2.1)
    obtain ⟨d, hd1, hd2, hd3⟩ := sqA_max hne
    have hY : ∀ (j : Nat) (e : sqE), Y[j]? = some e → d ≤ j → sqT e < T := by
      intro j e hj hdj
      rcases Nat.lt_or_ge (sqT e) T with hlt | hge
      · exact hlt
      · exfalso
        obtain ⟨b1, b2⟩ := hO j e hj
        have hA : sqA (hLg h T) (hLg h (sqT e)) i := by
          rcases Nat.eq_or_lt_of_le hge with heq | hgt
          · rw [← heq]; exact sqA.refl hC.le
          · have := hLs _ b1 (Nat.lt_of_lt_of_le (hYt j e hj) hB) T i n hC hgt
            exact this.trans ((I.1 _ b1).1.mono this.2.1)
        exact hd3 ((hA.mono hd1).trans (b2.mono (Nat.succ_le_succ hdj)).symm)
    have hdis : ∀ v, v < 5 → decide (i ≤ hak h T v) = true → W v = true → False := by
      intro v hv hk hw
      rcases hW v hv hw T i hT hC.2.1 (of_decide_eq_true hk) with h1 | ⟨T'', b1, b2, b3, b4⟩
      · exact hne h1
      · exact b4 (hLs T'' b1 b3 T i n hC b2)
    have hX : ∀ (j : Nat) (e : sqE) (c : Nat × Nat) (j' : Nat) (e' : sqE), j < n → (hLg h T)[j]? = some e → sqC e = some c → d ≤ j' → j' < j → (hLg h T)[j']? = some e' → sqC e' ≠ none → False := by
      intro j e c j' e' hjn hj hc hdj hjj he' hc'
      obtain ⟨T0, i0, n0, d1, d2, d3, d4, d5⟩ := (sq4x I (sqO_Lg I hTe) hj hc).2.2 j' e' hjj he' hc'
      have hle : sqT e ≤ T := sqLg_le I hTe hj
      have hA : sqA (hLg h T0) Y i0 := by
        rcases Nat.eq_or_lt_of_le (Nat.le_trans d1 hle) with heq | hlt
        · have := d2 (by omega)
          rw [heq] at d4 ⊢
          exact ihn n0 (by omega) i0 d4
        · exact ihT T0 hlt (Nat.lt_trans hlt hT) n0 i0 d4
      exact hd3 ((d5.symm.trans (hA.mono d3)).mono (Nat.succ_le_succ hdj))
    have hYx : ∀ (j : Nat) (e : sqE) (c : Nat × Nat) (j' : Nat) (e' : sqE), Y[j]? = some e → sqC e = some c → d ≤ j' → j' < j → Y[j']? = some e' → sqC e' ≠ none → False := by
      intro j e c j' e' hj hc hdj hjj he' hc'
      obtain ⟨T0, i0, n0, d1, d2, d3, d4, d5⟩ := (sq4x I hO hj hc).2.2 j' e' hjj he' hc'
      have hlt : sqT e < T := hY j e hj (by omega)
      have hA := hLT T0 i0 n0 d4 (by omega)
      exact hd3 (((hA.mono d3).symm.trans d5).mono (Nat.succ_le_succ hdj))
    have c1 : sqF (hg0 h) ((hLg h T).take n) = sqF (hg0 h) (Y.take d) ∨ sqJ (sqF (hg0 h) (Y.take d)) (sqF (hg0 h) ((hLg h T).take n)) := by
      rcases sqF_cases (hg0 h) (hLg h T) d n (by have := hC.2.2.1; omega) hC.2.2.2.1 with x1 | ⟨j, e, c, a1, a2, a3, a4, a5, a6⟩
      · rw [hd2.take] at x1; exact Or.inl x1
      · rcases a6 with a6 | ⟨j', e', b1, b2, b3, b4⟩
        · have := (sq4x I (sqO_Lg I hTe) a3 a4).2.1
          rw [a6, hd2.take] at this
          rw [a5]
          exact Or.inr this
        · exact absurd (hX j e c j' e' a2 a3 a4 b1 b2 b3 b4) id
    have c2 : sqF (hg0 h) Y = sqF (hg0 h) (Y.take d) ∨ sqJ (sqF (hg0 h) (Y.take d)) (sqF (hg0 h) Y) := by
      rcases sqF_cases (hg0 h) Y d Y.length hd2.2.1 (Nat.le_refl _) with x1 | ⟨j, e, c, a1, a2, a3, a4, a5, a6⟩
      · rw [List.take_length] at x1; exact Or.inl x1
      · rw [List.take_length] at a5
        rcases a6 with a6 | ⟨j', e', b1, b2, b3, b4⟩
        · have := (sq4x I hO a3 a4).2.1
          rw [a6] at this
          rw [a5]
          exact Or.inr this
        · exact absurd (hYx j e c j' e' a3 a4 b1 b2 b3 b4) id
    obtain ⟨v, v1, v2, v3⟩ := sqQ_near c1 c2 hC.2.2.2.2 hQ
    exact hdis v v1 v2 v3
  intro T i n k hT
  exact key T hT n i k
/-- the log at an election has all that was committed in earlier terms -/
theorem sqLC (I : sqI h) : ∀ T, hel h T ≠ none → sqL h T (hLE h T) := by
  intro T
  induction T using Nat.strongRecOn with
  | _ T ih =>
  intro hT
  obtain ⟨c, hc⟩ := Option.ne_none_iff_exists'.mp hT
  obtain ⟨q1, q2⟩ := I.2.1 T c hc
  obtain ⟨a1, a2, a3, a4⟩ := I.1 T hT
  exact sqL_gen I (Nat.le_refl T) q1 (fun v hv hw => (q2 v hv hw).2) a2 a3 (fun T'' b1 b2 => ih T'' b2 b1)
theorem sqLC_Lg (I : sqI h) {T0 i n T : Nat} (hT : hel h T ≠ none) (hK : sqK h T0 i n) (hle : T0 ≤ T) : sqA (hLg h T0) (hLg h T) i := by
  rcases Nat.eq_or_lt_of_le hle with heq | hlt
  · rw [heq] at hK ⊢; exact sqA.refl hK.le
  · have := sqLC I T hT T0 i n hK hlt
    exact this.trans ((I.1 T hT).1.mono this.2.1)
/-- a term has one leader -/
theorem sq_one (I : sqI h) {T c c' : Nat} (hT : hel h T = some c') {W : Nat → Bool} (hQ : sqQ (sqF (hg0 h) (hcl h T c)) W) (hW : ∀ v, v < 5 → W v = true → hvt h T v = some c) : c = c' := by
  have hTe : hel h T ≠ none := by rw [hT]; exact Option.some_ne_none _
  obtain ⟨q1, q2⟩ := I.2.1 T c' hT
  obtain ⟨a1, a2, a3, a4⟩ := I.1 T hTe
  obtain ⟨p1, p2, p3⟩ := I.2.2.2.2.1 T c
  have hY : sqL h T (hcl h T c) := sqL_gen I (Nat.le_succ T) hQ (fun v hv hw => (I.2.2.1 T v c (hW v hv hw)).2) p1 p2 (fun T'' b1 _ => sqLC I T'' b1)
  have hX := sqLC I T hTe
  obtain ⟨d, hd1, hd2, hd3⟩ := sqA_max (X := hLE h T) (Y := hcl h T c) (i := (hLE h T).length + 1) (fun q => absurd q.1 (by omega))
  have bad : ∀ (L M : List sqE), sqO h L → (∀ (j : Nat) (e : sqE), L[j]? = some e → sqT e < T) → sqL h T M → ¬ sqA L M (d + 1) → ∀ (j : Nat) (e : sqE) (c : Nat × Nat) (j' : Nat) (e' : sqE), L[j]? = some e → sqC e = some c → d ≤ j' → j' < j → L[j']? = some e' → sqC e' ≠ none → False := by
    intro L M hO ht hM hd j e c j' e' hj hc hdj hjj he' hc'
    obtain ⟨T0, i0, n0, d1, d2, d3, d4, d5⟩ := (sq4x I hO hj hc).2.2 j' e' hjj he' hc'
    have hlt : sqT e < T := ht j e hj
    have hA := hM T0 i0 n0 d4 (by omega)
    exact hd ((d5.symm.trans (hA.mono d3)).mono (Nat.succ_le_succ hdj))
  have c1 : sqF (hg0 h) (hLE h T) = sqF (hg0 h) ((hcl h T c).take d) ∨ sqJ (sqF (hg0 h) ((hcl h T c).take d)) (sqF (hg0 h) (hLE h T)) := by
    rcases sqF_cases (hg0 h) (hLE h T) d (hLE h T).length hd2.1 (Nat.le_refl _) with x1 | ⟨j, e, c, a1, a2', a3', a4', a5, a6⟩
    · rw [List.take_length, hd2.take] at x1; exact Or.inl x1
    · rw [List.take_length] at a5
      rcases a6 with a6 | ⟨j', e', b1, b2, b3, b4⟩
      · have := (sq4x I a2 a3' a4').2.1
        rw [a6, hd2.take] at this
        rw [a5]
        exact Or.inr this
      · exact absurd (bad _ _ a2 a3 hY hd3 j e _ j' e' a3' a4' b1 b2 b3 b4) id
  have c2 : sqF (hg0 h) (hcl h T c) = sqF (hg0 h) ((hcl h T c).take d) ∨ sqJ (sqF (hg0 h) ((hcl h T c).take d)) (sqF (hg0 h) (hcl h T c)) := by
    rcases sqF_cases (hg0 h) (hcl h T c) d (hcl h T c).length hd2.2.1 (Nat.le_refl _) with x1 | ⟨j, e, c, a1, a2', a3', a4', a5, a6⟩
    · rw [List.take_length] at x1; exact Or.inl x1
    · rw [List.take_length] at a5
      rcases a6 with a6 | ⟨j', e', b1, b2, b3, b4⟩
      · have := (sq4x I p1 a3' a4').2.1
        rw [a6] at this
        rw [a5]
        exact Or.inr this
      · exact absurd (bad _ _ p1 p2 hX (fun q => hd3 q.symm) j e _ j' e' a3' a4' b1 b2 b3 b4) id
  obtain ⟨v, v1, v2, v3⟩ := sqQ_near c1 c2 q1 hQ
  have e1 := (q2 v v1 v2).1
  have e2 := hW v v1 v3
  rw [e1] at e2
  exact (Option.some.inj e2).symm
end SqI
