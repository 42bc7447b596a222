/-! a new cluster's references are set -/
section SqL1
variable {q : Nat} {μ : gM}
theorem netM_19 : ∀ k t j, 42 * q ≤ t → t < 42 * q + k → j < 3 → netM μ q k 19 t j = 1
  | 0, t, j, h1, h2, _ => absurd h2 (by omega)
  | k + 1, t, j, h1, h2, hj => by
    show w3 (msgM (netM μ q k) (42 * q + k)) 10 q k _ 19 t j = 1
    rw [w3_ne (by omega)]
    by_cases e : t = 42 * q + k
    · rw [e]
      rcases (show j = 0 ∨ j = 1 ∨ j = 2 by omega) with z | z | z <;> (rw [z]; simp [msgM, w3])
    · rw [msgM_ne (by omega), netM_19 k t j h1 (by omega) hj]
theorem msgM_1 {t j : Nat} (hj : j < 3) : msgM μ t 19 t j = 1 := by
  rcases (show j = 0 ∨ j = 1 ∨ j = 2 by omega) with z | z | z <;> (rw [z]; simp [msgM, w3])
theorem netM2_19 {t j : Nat} (h1 : 42 * q ≤ t) (h2 : t < 42 * q + 42) (hj : j < 3) : netM2 μ q 19 t j = 1 := by
  unfold netM2
  rw [w3_ne (by omega)]
  by_cases e : t = 42 * q + 41
  · rw [e, msgM_1 hj]
  · rw [msgM_ne (by omega)]
    unfold netM1
    rw [w3_ne (by omega)]
    by_cases e2 : t = 42 * q + 40
    · rw [e2, msgM_1 hj]
    · rw [msgM_ne (by omega), netM_19 40 t j h1 (by omega) hj]
theorem netM2_90 : netM2 μ q 9 q 0 = 1 := by
  unfold netM2 w3
  rw [if_neg (by omega), msgM_ne (by omega)]
  unfold netM1 w3
  rw [if_neg (by omega), msgM_ne (by omega), netM_90]
theorem repM_11 {i j : Nat} {x : Int32} (h : 1 ≤ j ∧ j ≤ 4) : repM μ i x 11 i j = 1 := by
  rcases (show j = 1 ∨ j = 2 ∨ j = 3 ∨ j = 4 by omega) with z | z | z | z <;> (rw [z]; simp [repM, w3])
theorem repM_12 {i j : Nat} {x : Int32} (h : j < 3) : repM μ i x 12 i j = 1 := by
  rcases (show j = 0 ∨ j = 1 ∨ j = 2 by omega) with z | z | z <;> (rw [z]; simp [repM, w3])
theorem cluM_11 : ∀ k n j, n < k → 1 ≤ j ∧ j ≤ 4 → cluM μ q k 11 (5 * q + n) j = 1
  | 0, n, j, h, _ => absurd h (by omega)
  | k + 1, n, j, h, hj => by
    show w3 (repM (cluM μ q k) (5 * q + k) _) 7 q k _ 11 (5 * q + n) j = _
    rw [w3_ne (by omega)]
    by_cases e : n = k
    · rw [e, repM_11 hj]
    · rw [repM_ne (by omega) (by omega), cluM_11 k n j (by omega) hj]
theorem cluM_12 : ∀ k n j, n < k → j < 3 → cluM μ q k 12 (5 * q + n) j = 1
  | 0, n, j, h, _ => absurd h (by omega)
  | k + 1, n, j, h, hj => by
    show w3 (repM (cluM μ q k) (5 * q + k) _) 7 q k _ 12 (5 * q + n) j = _
    rw [w3_ne (by omega)]
    by_cases e : n = k
    · rw [e, repM_12 hj]
    · rw [repM_ne (by omega) (by omega), cluM_12 k n j (by omega) hj]
theorem cluM_7 : ∀ k j, j < k → cluM μ q k 7 q j = 1
  | 0, j, h => absurd h (by omega)
  | k + 1, j, h => by
    show w3 (repM (cluM μ q k) (5 * q + k) _) 7 q k _ 7 q j = _
    by_cases e : j = k
    · rw [e]
      unfold w3
      rw [if_pos ⟨rfl, rfl, rfl⟩]
    · unfold w3
      rw [if_neg (fun z => e z.2.2), repM_ne (by omega) (by omega), cluM_7 k j (by omega)]
end SqL1
