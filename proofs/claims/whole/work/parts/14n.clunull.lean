/-! a new cluster's references are none of them null -/
section SqN1
variable {q : Nat} {μ : gM}
theorem cluM2_o {f i : Nat} (h : f ≠ 6) : cluM2 μ q f i = netM2 (cluM μ q 5) q f i := by
  unfold cluM2 cluM1
  rw [w3_ne (by omega), w3_ne (by omega)]
theorem cluM2_c {f i : Nat} (h : f = 7 ∨ (11 ≤ f ∧ f ≤ 18)) : cluM2 μ q f i = cluM μ q 5 f i := by
  rw [cluM2_o (by omega), netM2_no (fun z => by
    rcases z with z | z
    · omega
    · have := netT2_in z; omega)]
theorem cluM2_6 {k : Nat} (h : k < 3) : cluM2 μ q 6 q k = 1 := by
  rcases (show k = 0 ∨ k = 1 ∨ k = 2 by omega) with z | z | z
  · rw [z]
    unfold cluM2 w3
    rw [if_neg (by omega)]
    unfold cluM1 w3
    rw [if_neg (by omega), netM2_no (fun z => by
      rcases z with z | z
      · omega
      · have := netT2_in z; omega), cluM_60]
  · rw [z]
    unfold cluM2 w3
    rw [if_neg (by omega)]
    unfold cluM1 w3
    rw [if_pos ⟨rfl, rfl, rfl⟩]
  · rw [z]
    unfold cluM2 w3
    rw [if_pos ⟨rfl, rfl, rfl⟩]
theorem gRn_o {f k : Nat} {z : Nat × Nat × List Nat} (h : gRn gkd_C f k) (e : gkd_C f = .inl z) : z.2.2.contains k = true := by
  unfold gRn at h
  rw [e] at h
  exact h.1
theorem gRn_r {f k : Nat} {z : Nat × Nat} (h : gRn gkd_C f k) (e : gkd_C f = .inr (.inr z)) : k < z.2 := by
  unfold gRn at h
  rw [e] at h
  exact h
theorem gRn_n {f k : Nat} {z : Nat × Nat} (h : gRn gkd_C f k) (e : gkd_C f = .inr (.inl z)) : False := by
  unfold gRn at h
  rw [e] at h
  exact h
theorem c012 {k : Nat} (h : ([0, 1, 2] : List Nat).contains k = true) : k < 3 := by
  have h8 : k = 0 ∨ k = 1 ∨ k = 2 := by simpa using h
  omega
theorem cluK (hq : q < 2) {f i k : Nat} (hf : (6 ≤ f ∧ f ≤ 10 ∧ i = q) ∨ (11 ≤ f ∧ f ≤ 18 ∧ 5 * q ≤ i ∧ i < 5 * q + 5) ∨ (19 ≤ f ∧ f ≤ 22 ∧ 42 * q ≤ i ∧ i < 42 * q + 42)) (hk : gRn gkd_C f k) : ¬ cluM2 μ q f i k = (if f = 10 then -1 else 0) := by
  rcases hf with ⟨h1, h2, rfl⟩ | ⟨h1, h2, h3, h4⟩ | ⟨h1, h2, h3, h4⟩
  · rcases (show f = 6 ∨ f = 7 ∨ f = 8 ∨ f = 9 ∨ f = 10 by omega) with rfl | rfl | rfl | rfl | rfl
    · rw [cluM2_6 (c012 (gRn_o hk rfl))]
      decide
    · rw [cluM2_c (Or.inl rfl), cluM_7 5 k (gRn_r hk rfl)]
      decide
    · exact (gRn_n hk rfl).elim
    · have h5 := c012 (gRn_o hk rfl)
      rw [cluM2_o (by decide)]
      rcases (show k = 0 ∨ k = 1 ∨ k = 2 by omega) with z | z | z
      · rw [z, netM2_90]
        decide
      · rw [z, netM2_91]
        exact ids_ne0 (by omega) (by omega)
      · rw [z, netM2_92]
        exact ids_ne0 (by omega) (by omega)
    · have h5 : k < 40 := gRn_r hk rfl
      rw [cluM2_o (by decide), netM2_10 h5]
      exact ids_ne1 (by omega)
  · rw [cluM2_c (Or.inr ⟨h1, h2⟩), if_neg (by omega)]
    have e : i = 5 * q + (i - 5 * q) := by omega
    rcases (show f = 11 ∨ f = 12 ∨ f = 13 ∨ f = 14 ∨ f = 15 ∨ f = 16 ∨ f = 17 ∨ f = 18 by omega) with rfl | rfl | rfl | rfl | rfl | rfl | rfl | rfl
    · have h5 : ([1, 2, 3, 4] : List Nat).contains k = true := gRn_o hk rfl
      have h8 : k = 1 ∨ k = 2 ∨ k = 3 ∨ k = 4 := by simpa using h5
      rw [e, cluM_11 5 (i - 5 * q) k (by omega) (by omega)]
      decide
    · rw [e, cluM_12 5 (i - 5 * q) k (by omega) (c012 (gRn_o hk rfl))]
      decide
    · exact (gRn_n hk rfl).elim
    · exact (gRn_n hk rfl).elim
    · exact (gRn_n hk rfl).elim
    · exact (gRn_n hk rfl).elim
    · exact (gRn_n hk rfl).elim
    · exact (gRn_n hk rfl).elim
  · rw [cluM2_o (by omega), if_neg (by omega)]
    rcases (show f = 19 ∨ f = 20 ∨ f = 21 ∨ f = 22 by omega) with rfl | rfl | rfl | rfl
    · rw [netM2_19 h3 h4 (c012 (gRn_o hk rfl))]
      decide
    · exact (gRn_n hk rfl).elim
    · exact (gRn_n hk rfl).elim
    · exact (gRn_n hk rfl).elim
end SqN1
