/-! a cluster's cells are all there -/
theorem cluT_mem {q n f : Nat} (h1 : 11 ≤ f) (h2 : f ≤ 18) : ∀ k, n < k → (f, 5 * q + n) ∈ cluT q k
  | 0, h => absurd h (by omega)
  | k + 1, h => by
    by_cases e : n = k
    · rw [e]
      by_cases e1 : f = 11
      · rw [e1]
        exact List.mem_append_left _ (List.mem_append_right _ List.mem_cons_self)
      · refine List.mem_append_right _ ?_
        rcases (show f = 12 ∨ f = 13 ∨ f = 14 ∨ f = 15 ∨ f = 16 ∨ f = 17 ∨ f = 18 by omega) with z | z | z | z | z | z | z <;> (rw [z]; simp)
    · exact List.mem_append_left _ (List.mem_append_left _ (cluT_mem h1 h2 k (by omega)))
theorem netT_mem {q t f : Nat} (h1 : 19 ≤ f) (h2 : f ≤ 22) (h3 : 42 * q ≤ t) : ∀ k, t < 42 * q + k → (f, t) ∈ netT q k
  | 0, h => absurd h (by omega)
  | k + 1, h => by
    by_cases e : t = 42 * q + k
    · rw [e]
      by_cases e1 : f = 19
      · rw [e1]
        exact List.mem_append_left _ (List.mem_append_right _ List.mem_cons_self)
      · refine List.mem_append_right _ ?_
        rcases (show f = 20 ∨ f = 21 ∨ f = 22 by omega) with z | z | z <;> (rw [z]; simp)
    · exact List.mem_append_left _ (List.mem_append_left _ (netT_mem h1 h2 h3 k (by omega)))
theorem netT2_mem {q t f : Nat} (h1 : 19 ≤ f) (h2 : f ≤ 22) (h3 : 42 * q ≤ t) (h : t < 42 * q + 42) : (f, t) ∈ netT2 q := by
  by_cases e : t = 42 * q + 41
  · rw [e]
    by_cases e1 : f = 19
    · rw [e1]
      exact List.mem_append_left _ (List.mem_append_right _ List.mem_cons_self)
    · refine List.mem_append_right _ ?_
      rcases (show f = 20 ∨ f = 21 ∨ f = 22 by omega) with z | z | z <;> (rw [z]; simp)
  · exact List.mem_append_left _ (List.mem_append_left _ (show (f, t) ∈ netT q 41 from netT_mem h1 h2 h3 41 (by omega)))
theorem netT2_10 {q : Nat} : (10, q) ∈ netT2 q := by
  rcases List.mem_cons.mp (netE_10 (q := q) (k := 40)) with g | g
  · have := (Prod.mk.inj g).1; omega
  · exact List.mem_append_left _ (List.mem_append_left _ (List.mem_append_left _ (List.mem_append_left _ g)))
theorem cluT2_mem {q f i : Nat} (h : (f = 7 ∧ i = q) ∨ (8 ≤ f ∧ f ≤ 10 ∧ i = q) ∨ (11 ≤ f ∧ f ≤ 18 ∧ 5 * q ≤ i ∧ i < 5 * q + 5) ∨ (19 ≤ f ∧ f ≤ 22 ∧ 42 * q ≤ i ∧ i < 42 * q + 42)) : (f, i) ∈ cluT2 q := by
  rcases h with h | h | h | h
  · rw [h.1, h.2]
    rcases List.mem_cons.mp (cluE_7 (q := q) (k := 5)) with g | g
    · have := (Prod.mk.inj g).1; omega
    · exact List.mem_append_left _ (List.mem_append_left _ (List.mem_append_left _ g))
  · rw [h.2.2]
    rcases (show f = 8 ∨ f = 9 ∨ f = 10 by omega) with e | e | e
    · rw [e]
      exact List.mem_append_right _ List.mem_cons_self
    · rw [e]
      exact List.mem_append_left _ (List.mem_append_left _ (List.mem_append_right _ List.mem_cons_self))
    · rw [e]
      exact List.mem_append_left _ (List.mem_append_right _ netT2_10)
  · have g := cluT_mem (q := q) (n := i - 5 * q) h.1 h.2.1 5 (by omega)
    rw [show 5 * q + (i - 5 * q) = i from by omega] at g
    exact List.mem_append_left _ (List.mem_append_left _ (List.mem_append_left _ g))
  · exact List.mem_append_left _ (List.mem_append_right _ (netT2_mem h.1 h.2.1 h.2.2.1 h.2.2.2))
