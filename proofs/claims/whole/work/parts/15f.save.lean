/-! save() where nothing was saved yet: a second cluster is made -/

section Sv0
variable {μ μ' : gM} {q : Nat} {S : sqSt}
theorem RB.own (h : RB μ q S) (F : ∀ f i j, rbP q f i j → μ' f i j = μ f i j) : RB μ' q S := by
  have o1 : ∀ f j, f = 6 ∨ 8 ≤ f ∧ f ≤ 10 → μ' f q j = μ f q j := fun f j hf => F f q j (Or.inl ⟨rfl, hf⟩)
  have o2 : ∀ f n j, n < 5 → 11 ≤ f → f ≤ 18 → μ' f (5 * q + n) j = μ f (5 * q + n) j := fun f n j hn h1 h2 => F f _ j (Or.inr (Or.inl ⟨⟨by omega, by omega⟩, h1, h2⟩))
  have o3 : ∀ f t j, 42 * q ≤ t → t < 42 * q + 42 → 19 ≤ f → f ≤ 22 → μ' f t j = μ f t j := fun f t j h1 h2 h3 h4 => F f t j (Or.inr (Or.inr ⟨⟨h1, h2⟩, h3, h4⟩))
  obtain ⟨w, bn, c3, c4, c5, c8⟩ := h
  refine ⟨?_, fun n hn => (bn n hn).same (fun f j h1 h2 => o2 f n j hn h1 h2), by rw [o1 6 3 (by omega)]; exact c3, by rw [o1 6 4 (by omega)]; exact c4, fun c h1 h2 => by rw [o1 6 _ (by omega)]; exact c5 c h1 h2, fun t ht => by rw [o1 8 t (by omega)]; exact c8 t ht⟩
  have hp : ∀ i, nwP μ' q i = nwP μ q i := fun i => nwP_cg (fun _ => o1 10 i (by omega)) (fun _ => o1 9 1 (by omega)) (fun _ => o1 9 2 (by omega))
  obtain ⟨k1, k2, k3, k4, k5, k6, k7, k8⟩ := w
  unfold NW
  rw [o1 9 3 (by omega), o1 9 4 (by omega), o1 9 5 (by omega), o1 9 6 (by omega), o1 9 7 (by omega)]
  refine ⟨k1.perm (fun i => i) (fun i _ => hp i) (fun i hi => hi) (fun i j _ _ e => e), k2, k3, k4, k5, k6, k7, fun i m hm => ?_⟩
  have hi := (List.getElem?_eq_some_iff.mp hm).1
  have hr := k1.1 i (by omega)
  rw [hp i]
  exact (k8 i m hm).cg (fun j _ _ => o3 19 _ j hr.1 hr.2 (by omega) (by omega)) (fun f j h1 h2 _ => o3 f _ j hr.1 hr.2 (by omega) h2)
theorem cluT_lo {q f i : Nat} : ∀ k, (f, i) ∈ cluT q k → (f = 7 ∧ i = q) ∨ (11 ≤ f ∧ f ≤ 18 ∧ 5 * q ≤ i)
  | 0, h => by
    obtain ⟨rfl, rfl⟩ := Prod.mk.inj (List.mem_singleton.mp h)
    exact Or.inl ⟨rfl, rfl⟩
  | k + 1, h => by
    rcases List.mem_append.mp h with h | h
    · rcases List.mem_append.mp h with h | h
      · exact cluT_lo k h
      · obtain ⟨rfl, rfl⟩ := Prod.mk.inj (List.mem_singleton.mp h)
        exact Or.inr ⟨by omega, by omega, by omega⟩
    · simp only [List.mem_cons, Prod.mk.injEq, List.not_mem_nil, or_false] at h
      exact Or.inr ⟨by omega, by omega, by omega⟩
theorem netT_lo {q f i : Nat} : ∀ k, (f, i) ∈ netT q k → (f = 10 ∧ i = q) ∨ (19 ≤ f ∧ f ≤ 22 ∧ 42 * q ≤ i)
  | 0, h => by
    obtain ⟨rfl, rfl⟩ := Prod.mk.inj (List.mem_singleton.mp h)
    exact Or.inl ⟨rfl, rfl⟩
  | k + 1, h => by
    rcases List.mem_append.mp h with h | h
    · rcases List.mem_append.mp h with h | h
      · exact netT_lo k h
      · obtain ⟨rfl, rfl⟩ := Prod.mk.inj (List.mem_singleton.mp h)
        exact Or.inr ⟨by omega, by omega, by omega⟩
    · simp only [List.mem_cons, Prod.mk.injEq, List.not_mem_nil, or_false] at h
      exact Or.inr ⟨by omega, by omega, by omega⟩
/-- the cells of the second cluster -/
abbrev nwP0 (f i : Nat) : Prop := (6 ≤ f ∧ f ≤ 10 ∧ i = 1) ∨ (11 ≤ f ∧ f ≤ 18 ∧ 5 ≤ i) ∨ (19 ≤ f ∧ f ≤ 22 ∧ 42 ≤ i)
def nwC (f i : Nat) : Bool := decide (nwP0 f i)
theorem nwC_t {f i : Nat} (h : nwP0 f i) : nwC f i = true := decide_eq_true h
theorem nwC_f {f i : Nat} (h : ¬ nwP0 f i) : ¬ nwC f i = true := fun z => h (of_decide_eq_true z)
theorem cluT2_nw {f i : Nat} (h : (f, i) ∈ cluT2 1) : nwP0 f i ∧ f ≠ 6 := by
  rcases List.mem_append.mp h with h | h
  · rcases List.mem_append.mp h with h | h
    · rcases List.mem_append.mp h with h | h
      · rcases cluT_lo 5 h with h | h <;> omega
      · have := Prod.mk.inj (List.mem_singleton.mp h); omega
    · rcases List.mem_append.mp h with h | h
      · rcases List.mem_append.mp h with h | h
        · rcases netT_lo 41 h with h | h <;> omega
        · have := Prod.mk.inj (List.mem_singleton.mp h); omega
      · simp only [List.mem_cons, Prod.mk.injEq, List.not_mem_nil, or_false] at h
        omega
  · have := Prod.mk.inj (List.mem_singleton.mp h); omega
theorem gE1_nw {f i : Nat} (h : (f, i) ∈ gE_C 1) : ¬ nwP0 f i := fun z => by
  obtain ⟨h1, h2⟩ := gE_C_mem.mp h
  have h3 := gcnt1 h1 h2
  unfold nwP0 at z
  omega
/-- what points where while the second cluster is made -/
def rhS : gRh := fun row f i k => if nwC f i = true then rhK 2 row f i k else if (f = 10 ∧ 40 ≤ k) ∨ (f = 7 ∧ 5 ≤ k) then none else grh_C 1 row f i k
theorem rhS_n {f i k : Nat} {row : Nat → Int32} (h : nwP0 f i) : rhS row f i k = rhK 2 row f i k := if_pos (nwC_t h)
theorem rhS_o {f i k : Nat} {row : Nat → Int32} (h : ¬ nwP0 f i) (hk : ¬ ((f = 10 ∧ 40 ≤ k) ∨ (f = 7 ∧ 5 ≤ k))) : rhS row f i k = grh_C 1 row f i k := by
  unfold rhS
  rw [if_neg (nwC_f h), if_neg hk]
def svM (μ : gM) : gM := fun f i k => if nwC f i = true then (if f = 10 then -1 else 0) else μ f i k
theorem svM_o {f i : Nat} (h : ¬ nwP0 f i) : svM μ f i = μ f i := funext fun _ => if_neg (nwC_f h)
theorem svM_n {f i : Nat} (h : nwP0 f i) (hf : f ≠ 10) : svM μ f i = fun _ => 0 := funext fun _ => (if_pos (nwC_t h)).trans (if_neg hf)
theorem svM_10 : svM μ 10 1 = fun _ => -1 := funext fun _ => (if_pos (nwC_t (by unfold nwP0; omega))).trans (if_pos rfl)
/-- the places that hold references, where they are in the arrays -/
theorem gRn_k {f k : Nat} (h : gRn gkd_C f k) : ¬ ((f = 10 ∧ 40 ≤ k) ∨ (f = 7 ∧ 5 ≤ k)) := fun z => by
  rcases z with ⟨rfl, z⟩ | ⟨rfl, z⟩
  · have := gRn_r h rfl; omega
  · have := gRn_r h rfl; omega
/-- no old cell points to one of the second cluster -/
theorem rhS_old (hw : RW μ 0) {f i k : Nat} {z : Nat × Nat} (hE : (f, i) ∈ gE_C 1) (hr : gRl gkd_C f k) (hz : rhS (μ f i) f i k = some z) : ¬ nwP0 z.1 z.2 := by
  have hn := gE1_nw hE
  obtain ⟨h1, h2⟩ := gE_C_mem.mp hE
  have h3 := gcnt1 h1 h2
  have hk : ¬ ((f = 10 ∧ 40 ≤ k) ∨ (f = 7 ∧ 5 ≤ k)) := fun h9 => by
    unfold rhS at hz
    rw [if_neg (nwC_f hn), if_pos h9] at hz
    cases hz
  rw [rhS_o hn hk] at hz
  have w := hw.1.1
  rcases (show f = 0 ∨ f = 1 ∨ f = 2 ∨ f = 3 ∨ f = 4 ∨ f = 5 ∨ f = 6 ∨ f = 7 ∨ f = 8 ∨ f = 9 ∨ f = 10 ∨ f = 11 ∨ f = 12 ∨ f = 13 ∨ f = 14 ∨ f = 15 ∨ f = 16 ∨ f = 17 ∨ f = 18 ∨ f = 19 ∨ f = 20 ∨ f = 21 ∨ f = 22 by omega) with e | e | e | e | e | e | e | e | e | e | e | e | e | e | e | e | e | e | e | e | e | e | e <;> subst e
  · have h9 : ([0, 1, 2, 3] : List Nat).contains k = true := hr.1
    have h8 : k = 0 ∨ k = 1 ∨ k = 2 ∨ k = 3 := by simpa using h9
    rcases h8 with e | e | e | e <;> subst e
    · have hz2 : some (6, 0) = some z := hz
      rw [← Option.some.inj hz2]; unfold nwP0; omega
    · have hz2 : none = some z := hz
      cases hz2
    · have hz2 : some (1, 0) = some z := hz
      rw [← Option.some.inj hz2]; unfold nwP0; omega
    · have hz2 : some (23, 0) = some z := hz
      rw [← Option.some.inj hz2]; unfold nwP0; omega
  · have h9 : ([0, 1, 2, 3] : List Nat).contains k = true := hr.1
    have h8 : k = 0 ∨ k = 1 ∨ k = 2 ∨ k = 3 := by simpa using h9
    have hz2 : some (2 + k, 0) = some z := hz
    rw [← Option.some.inj hz2]; unfold nwP0; omega
  · exact (show False from hr).elim
  · exact (show False from hr).elim
  · exact (show False from hr).elim
  · exact (show False from hr).elim
  · have h8 := c012 (show ([0, 1, 2] : List Nat).contains k = true from hr.1)
    rcases (show k = 0 ∨ k = 1 ∨ k = 2 by omega) with e | e | e <;> subst e
    · have hz2 : some (7, i) = some z := hz
      rw [← Option.some.inj hz2]; unfold nwP0; omega
    · have hz2 : some (9, i) = some z := hz
      rw [← Option.some.inj hz2]; unfold nwP0; omega
    · have hz2 : some (8, i) = some z := hz
      rw [← Option.some.inj hz2]; unfold nwP0; omega
  · have hz2 : some (11, 5 * i + k) = some z := hz
    rw [← Option.some.inj hz2]; unfold nwP0; omega
  · exact (show False from hr).elim
  · have hi : i = 0 := by omega
    subst hi
    have h8 := c012 (show ([0, 1, 2] : List Nat).contains k = true from hr.1)
    rcases (show k = 0 ∨ k = 1 ∨ k = 2 by omega) with e | e | e <;> subst e
    · have hz2 : some (10, 0) = some z := hz
      rw [← Option.some.inj hz2]; unfold nwP0; omega
    · have hz2 : some (19, (μ 9 0 1).toNatClampNeg) = some z := hz
      have := (w 40 (by omega)).2
      rw [nwP_40] at this
      rw [← Option.some.inj hz2]; unfold nwP0; omega
    · have hz2 : some (19, (μ 9 0 2).toNatClampNeg) = some z := hz
      have := (w 41 (by omega)).2
      rw [nwP_41] at this
      rw [← Option.some.inj hz2]; unfold nwP0; omega
  · have hi : i = 0 := by omega
    subst hi
    have hz2 : some (19, (μ 10 0 k).toNatClampNeg) = some z := hz
    have := (w k (by omega)).2
    rw [nwP_lt (by omega)] at this
    rw [← Option.some.inj hz2]; unfold nwP0; omega
  · have h9 : ([1, 2, 3, 4] : List Nat).contains k = true := hr.1
    have h8 : k = 1 ∨ k = 2 ∨ k = 3 ∨ k = 4 := by simpa using h9
    have hz2 : some (11 + k, i) = some z := hz
    rw [← Option.some.inj hz2]; unfold nwP0; omega
  · have h8 := c012 (show ([0, 1, 2] : List Nat).contains k = true from hr.1)
    have hz2 : some (16 + k, i) = some z := hz
    rw [← Option.some.inj hz2]; unfold nwP0; omega
  · exact (show False from hr).elim
  · exact (show False from hr).elim
  · exact (show False from hr).elim
  · exact (show False from hr).elim
  · exact (show False from hr).elim
  · exact (show False from hr).elim
  · have h8 := c012 (show ([0, 1, 2] : List Nat).contains k = true from hr.1)
    have hz2 : some (20 + k, i) = some z := hz
    rw [← Option.some.inj hz2]; unfold nwP0; omega
  · exact (show False from hr).elim
  · exact (show False from hr).elim
  · exact (show False from hr).elim
theorem svE_of {x : Nat × Nat} (h : x ∈ gE_C 2) : x ∈ (gE_C 1 ++ [(6, 1)]) ++ cluT2 1 := by
  obtain ⟨f, i⟩ := x
  obtain ⟨h1, h2⟩ := gE_C_mem.mp h
  have h3 : (f ≤ 5 ∧ i = 0) ∨ (6 ≤ f ∧ f ≤ 10 ∧ i ≤ 1) ∨ (11 ≤ f ∧ f ≤ 18 ∧ i < 10) ∨ (19 ≤ f ∧ f ≤ 22 ∧ i < 84) := by
    rcases (show f = 0 ∨ f = 1 ∨ f = 2 ∨ f = 3 ∨ f = 4 ∨ f = 5 ∨ f = 6 ∨ f = 7 ∨ f = 8 ∨ f = 9 ∨ f = 10 ∨ f = 11 ∨ f = 12 ∨ f = 13 ∨ f = 14 ∨ f = 15 ∨ f = 16 ∨ f = 17 ∨ f = 18 ∨ f = 19 ∨ f = 20 ∨ f = 21 ∨ f = 22 by omega) with rfl | rfl | rfl | rfl | rfl | rfl | rfl | rfl | rfl | rfl | rfl | rfl | rfl | rfl | rfl | rfl | rfl | rfl | rfl | rfl | rfl | rfl | rfl
    all_goals
      simp [gcnt] at h2
      omega
  by_cases hn : nwP0 f i
  · by_cases h6 : f = 6
    · unfold nwP0 at hn
      have hi : i = 1 := by omega
      rw [h6, hi]
      exact List.mem_append_left _ (List.mem_append_right _ List.mem_cons_self)
    · unfold nwP0 at hn
      exact List.mem_append_right _ (cluT2_mem (by omega))
  · refine List.mem_append_left _ (List.mem_append_left _ (gE_C_mem.mpr ⟨h1, ?_⟩))
    unfold nwP0 at hn
    rcases (show f = 0 ∨ f = 1 ∨ f = 2 ∨ f = 3 ∨ f = 4 ∨ f = 5 ∨ f = 6 ∨ f = 7 ∨ f = 8 ∨ f = 9 ∨ f = 10 ∨ f = 11 ∨ f = 12 ∨ f = 13 ∨ f = 14 ∨ f = 15 ∨ f = 16 ∨ f = 17 ∨ f = 18 ∨ f = 19 ∨ f = 20 ∨ f = 21 ∨ f = 22 by omega) with rfl | rfl | rfl | rfl | rfl | rfl | rfl | rfl | rfl | rfl | rfl | rfl | rfl | rfl | rfl | rfl | rfl | rfl | rfl | rfl | rfl | rfl | rfl
    all_goals
      simp [gcnt]
      omega
theorem grh_12 {f i k : Nat} {row : Nat → Int32} (h : ¬ (f = 0 ∧ k = 1)) : grh_C 2 row f i k = grh_C 1 row f i k := by
  match f, k, h with
  | 0, 0, _ => rfl
  | 0, 1, h => exact absurd ⟨rfl, rfl⟩ h
  | 0, 2, _ => rfl
  | 0, k + 3, _ => rfl
  | 1, _, _ => rfl
  | 2, _, _ => rfl
  | 3, _, _ => rfl
  | 4, _, _ => rfl
  | 5, _, _ => rfl
  | 6, _, _ => rfl
  | 7, _, _ => rfl
  | 8, _, _ => rfl
  | 9, _, _ => rfl
  | 10, _, _ => rfl
  | 11, _, _ => rfl
  | 12, _, _ => rfl
  | 13, _, _ => rfl
  | 14, _, _ => rfl
  | 15, _, _ => rfl
  | 16, _, _ => rfl
  | 17, _, _ => rfl
  | 18, _, _ => rfl
  | 19, _, _ => rfl
  | f + 20, _, _ => rfl
/-- the saved world points as the class's with two clusters does -/
theorem rhS_2 {f i k : Nat} (hE : (f, i) ∈ gE_C 2) (hk : gRn gkd_C f k) : grh_C 2 (cluM2 (svM μ) 1 f i) f i k = gRs rhS 0 0 1 (6, 1) (cluM2 (svM μ) 1 f i) f i k := by
  have hx := svE_of hE
  obtain ⟨h1, -⟩ := gE_C_mem.mp hE
  by_cases hn : nwP0 f i
  · have h0 : ¬ (f = 0 ∧ i = 0 ∧ k = 1) := fun z => by unfold nwP0 at hn; omega
    unfold gRs
    rw [if_neg h0, rhS_n hn]
    have hf : (6 ≤ f ∧ f ≤ 10 ∧ i = 1) ∨ (11 ≤ f ∧ f ≤ 18 ∧ 5 * 1 ≤ i ∧ i < 5 * 1 + 5) ∨ (19 ≤ f ∧ f ≤ 22 ∧ 42 * 1 ≤ i ∧ i < 42 * 1 + 42) := by
      obtain ⟨h1, h2⟩ := gE_C_mem.mp hE
      unfold nwP0 at hn
      have h3 : (f ≤ 5 ∧ i = 0) ∨ (6 ≤ f ∧ f ≤ 10 ∧ i ≤ 1) ∨ (11 ≤ f ∧ f ≤ 18 ∧ i < 10) ∨ (19 ≤ f ∧ f ≤ 22 ∧ i < 84) := by
        rcases (show f = 0 ∨ f = 1 ∨ f = 2 ∨ f = 3 ∨ f = 4 ∨ f = 5 ∨ f = 6 ∨ f = 7 ∨ f = 8 ∨ f = 9 ∨ f = 10 ∨ f = 11 ∨ f = 12 ∨ f = 13 ∨ f = 14 ∨ f = 15 ∨ f = 16 ∨ f = 17 ∨ f = 18 ∨ f = 19 ∨ f = 20 ∨ f = 21 ∨ f = 22 by omega) with rfl | rfl | rfl | rfl | rfl | rfl | rfl | rfl | rfl | rfl | rfl | rfl | rfl | rfl | rfl | rfl | rfl | rfl | rfl | rfl | rfl | rfl | rfl
        all_goals
          simp [gcnt] at h2
          omega
      omega
    exact (rhK_at (cluK (by decide) hf hk)).symm
  · by_cases h0 : f = 0 ∧ i = 0 ∧ k = 1
    · obtain ⟨rfl, rfl, rfl⟩ := h0
      rw [gRs_at]
      rfl
    · have h01 : ¬ (f = 0 ∧ k = 1) := fun z => h0 ⟨z.1, by
        obtain ⟨h1, h2⟩ := gE_C_mem.mp hE
        rw [z.1] at h2
        simp [gcnt] at h2
        omega, z.2⟩
      unfold gRs
      rw [if_neg h0, rhS_o hn (gRn_k hk), grh_12 h01]
theorem clE_S (μ : gM) : clE gkd_C rhS ((6, 1) :: cluT2 1) (cluM2 (svM μ) 1) := fun f i k z hm hr hz => by
  have hn : nwP0 f i := by
    rcases List.mem_cons.mp hm with h | h
    · obtain ⟨rfl, rfl⟩ := Prod.mk.inj h
      unfold nwP0; omega
    · exact (cluT2_nw h).1
  rw [rhS_n hn] at hz
  exact clE_X0 (nc := 2) (q := 1) (by decide) (svM_n (by unfold nwP0; omega) (by decide)) (svM_n (by unfold nwP0; omega) (by decide)) (svM_n (by unfold nwP0; omega) (by decide)) (svM_n (by unfold nwP0; omega) (by decide)) svM_10 (fun f i h1 h2 h3 => svM_n (by unfold nwP0; omega) (by omega)) (fun f i h1 h2 h3 => svM_n (by unfold nwP0; omega) (by omega)) f i k z hm hr hz
theorem RB.sv (h : RB μ 0 S) : RB (cluM2 (svM μ) 1) 0 S := h.own (fun f i j hf => by
  have hn : ¬ nwP0 f i := fun z => by unfold rbP at hf; unfold nwP0 at z; omega
  rw [cluM2_no (fun z => by
    rcases z with z | z
    · exact hn (by unfold nwP0; omega)
    · exact hn (cluT2_nw z).1), svM_o hn])
end Sv0
section Sv1
variable {p : Program} {l : Launch} {e : Env} {R : Room} {s : State} {m : MethodId} {args : Array Value} {below : List Frame} {meth : Method} {c : Code} {cc : ByteArray} {nL : Nat} {own : String} {D : va_G} {E : List (Nat × Nat)} {kd : Nat → gKd} {tc : Nat → ClassId} {ad : Nat → Nat → Nat} {rh : gRh} {sa : Nat → Nat} {A : Nat → Prop} {H0 : Heap} {cells slots : Nat} {Q : State → Prop} {μ : gM} {pc : Nat} {lv : List (Nat × Value)} {st : List Value}
theorem J_initD {New : List (Nat × Nat)} {ν : gM} {f0 i0 mc ms pc1 ce sl : Nat} {av st0 : List Value} (hI : gI E ad) (hcl : ∀ f i k z, (f, i) ∈ E → gRl kd f k → rh (μ f i) f i k = some z → z ∉ New) (hE : (f0, i0) ∈ E) (hnew : ∀ f i, (f, i) ∈ New → (f, i) ∉ E) (hclv : clE kd rh ((f0, i0) :: New) ν)
    (hrun : gRunH p l e R s m args below meth c cc nL own D E kd tc ad rh sa A H0 cells slots μ pc lv [(f0, i0)] kd ad rh μ mc ms (iPo kd ad rh f0 i0 New ν) st av st0) (hp : pc + 3 = pc1) (h1 : cells + mc = ce) (h2 : slots + ms = sl)
    (k : ∀ ad1 : Nat → Nat → Nat, gI (E ++ New) ad1 → (∀ f i, (f, i) ∉ New → ad1 f i = ad f i) → J p l e R s m args below meth c cc nL own D (E ++ New) kd tc ad1 rh sa A H0 ce sl Q (muN f0 i0 New ν μ) pc1 lv st) : J p l e R s m args below meth c cc nL own D E kd tc ad rh sa A H0 cells slots Q μ pc lv st0 := by
  subst hp; subst h1; subst h2
  have hs : ∀ f i, (f, i) ∈ [(f0, i0)] → f = f0 ∧ i = i0 := fun f i h => Prod.mk.inj (List.mem_singleton.mp h)
  refine J_runG (fun f i h => by
    obtain ⟨rfl, rfl⟩ := hs f i h
    exact ⟨f, i, hE, rfl, rfl⟩) hrun (fun o E1 kd1 ad1 rh1 μ1 hp hI1 hf => ?_)
  obtain ⟨rfl, rfl, rfl, h00, rfl, rfl⟩ := hp
  have h0N : (f0, i0) ∉ New := fun z => hnew f0 i0 z hE
  have a2 : ∃ ad2 : Nat → Nat → Nat, (∀ f i, (f, i) ∈ New → ad2 f i = ad1 f i) ∧ ∀ f i, (f, i) ∉ New → ad2 f i = ad f i := ⟨fun f i => if (f, i) ∈ New then ad1 f i else ad f i, fun f i h => if_pos h, fun f i h => if_neg h⟩
  obtain ⟨ad2, hN, hO⟩ := a2
  have hOE : ∀ f i, (f, i) ∈ E → ad2 f i = ad f i := fun f i h => hO f i (fun z => hnew f i z h)
  have h1' : ∀ z : Nat × Nat, z ∈ (f0, i0) :: New → ad2 z.1 z.2 = ad1 z.1 z.2 := fun z hz => by
    rcases List.mem_cons.mp hz with rfl | hz
    · rw [hO _ _ h0N, h00]
    · exact hN _ _ hz
  have hI2 : gI (E ++ New) ad2 := gI_app (gI_cg hI hOE) (gI_cg (gI_tail hI1) hN) (fun a b ha hb z => by
    rw [hOE _ _ ha, hN _ _ hb] at z
    rcases hf b.1 b.2 (List.mem_cons_of_mem _ hb) with ⟨f', i', h3, h4⟩ | h3
    · obtain ⟨rfl, rfl⟩ := hs f' i' h3
      have h5 := gI_mem hI1 (p := b) (q := (f', i')) (List.mem_cons_of_mem _ hb) List.mem_cons_self (by rw [h4]; exact h00.symm)
      exact h0N (h5 ▸ hb)
    · exact h3 a.1 a.2 ha z)
  refine ⟨E ++ New, kd1, ad2, rh1, muN f0 i0 New μ1 μ, hI2, fun f i hm => ?_, k ad2 hI2 hO⟩
  by_cases hn : (f = f0 ∧ i = i0) ∨ (f, i) ∈ New
  · have e1 : muN f0 i0 New μ1 μ f i = μ1 f i := if_pos hn
    have hm2 : (f, i) ∈ (f0, i0) :: New := by
      rcases hn with ⟨rfl, rfl⟩ | hn
      · exact List.mem_cons_self
      · exact List.mem_cons_of_mem _ hn
    refine Or.inl ⟨f, i, hm2, h1' (f, i) hm2, ?_⟩
    rw [e1]
    refine g_e_cg (fun k0 hk0 => ?_)
    cases hz : rh1 (μ1 f i) f i k0 with
    | none => rfl
    | some z => exact congrArg some (h1' z (hclv f i k0 z hm2 hk0 hz))
  · have e1 : muN f0 i0 New μ1 μ f i = μ f i := if_neg hn
    have hmE : (f, i) ∈ E := by
      rcases List.mem_append.mp hm with hm | hm
      · exact hm
      · exact absurd (Or.inr hm) hn
    refine Or.inr ⟨f, i, hmE, fun a b hab z => ?_, hOE f i hmE, ?_⟩
    · obtain ⟨rfl, rfl⟩ := hs a b hab
      obtain ⟨e2, e3⟩ := Prod.mk.inj (gI_mem hI (p := (a, b)) (q := (f, i)) hE hmE z)
      exact hn (Or.inl ⟨e2.symm, e3.symm⟩)
    · rw [e1]
      refine g_e_cg (fun k0 hk0 => ?_)
      cases hz : rh1 (μ f i) f i k0 with
      | none => rfl
      | some z => exact congrArg some (hO z.1 z.2 (hcl f i k0 z hmE hk0 hz))
theorem iPo_rh {y : MethodName} {rm : Room} {maxL : Nat} {ret : Option FieldType} {av : List Value} {f0 i0 : Nat} {New : List (Nat × Nat)} {ν : gM} {rh2 : gRh} (h : gMetG l y cc maxL ret rm D [(f0, i0)] kd tc ad rh sa av μ (iPo kd ad rh f0 i0 New ν)) (he : ∀ f i, (f, i) ∈ (f0, i0) :: New → ∀ row k, rh2 row f i k = rh row f i k) : gMetG l y cc maxL ret rm D [(f0, i0)] kd tc ad rh2 sa av μ (iPo kd ad rh2 f0 i0 New ν) := by
  intro sz
  have ew : ∀ E1 : List (Nat × Nat), (∀ f i, (f, i) ∈ E1 → (f, i) ∈ (f0, i0) :: New) → ∀ (ad1 : Nat → Nat → Nat) (μ1 : gM), g_w E1 kd tc ad1 rh2 μ1 = g_w E1 kd tc ad1 rh μ1 := fun E1 hE1 ad1 μ1 => by
    unfold g_w
    refine List.map_congr_left (fun x hx => ?_)
    have e : g_e kd tc ad1 rh2 (μ1 x.1 x.2) x.1 x.2 = g_e kd tc ad1 rh (μ1 x.1 x.2) x.1 x.2 := g_e_cg (fun k _ => by rw [he x.1 x.2 (hE1 x.1 x.2 hx)])
    rw [e]
  refine MetFree.mono (h sz) (fun a s0 q => ⟨q.1, q.2.1, ?_, q.2.2.2⟩) (fun _ _ _ _ _ q => q) (fun a st oc t _ h2 => ⟨?_, h2.2⟩)
  · rw [← ew [(f0, i0)] (fun f i hf => by rw [List.mem_singleton.mp hf]; exact List.mem_cons_self) ad μ]
    exact q.2.2.1
  · obtain ⟨⟨o, E1, kd1, ad1, rh1, μ1, h3, ⟨rfl, rfl, rfl, h00, rfl, rfl⟩, h4, h5, h6, h7⟩, -⟩ := h2
    refine ⟨_, _, _, ad1, rh2, _, h3, ⟨rfl, rfl, rfl, h00, rfl, rfl⟩, h4, h5, ?_, h7⟩
    rw [ew ((f0, i0) :: New) (fun f i hf => hf) ad1 _]
    exact h6
end Sv1
/-- after the first save() -/
def svPo (S : sqSt) (μ : gM) (ad : Nat → Nat → Nat) : gPo := fun o1 E1 kd1 ad1 rh1 μ1 => ∃ r : Int32, o1 = some (.int r) ∧ r.toInt = (zti S : Int) ∧ E1 = gE_C 2 ∧ kd1 = gkd_C ∧ ad1 0 0 = ad 0 0 ∧ ad1 23 0 = ad 23 0 ∧ rh1 = grh_C 2 ∧ RB μ1 0 S ∧ RB μ1 1 S ∧ μ1 1 0 = μ 1 0 ∧ μ1 2 0 = μ 2 0
section Sv2
variable (l : Launch) (D : va_G) (tc : Nat → ClassId) (sa : Nat → Nat)
theorem kX6_save1 {ad : Nat → Nat → Nat} {μ : gM} {S : sqSt} {B : Nat} (hI : gI (gE_C 1) ad) (R : RY B μ 0 S) : gMetG l yX6_save cX6_save 1 (some .int) ({ frames := 12, cells := 213, slots := 1935, locals := 900 } : Room) D (gE_C 1) gkd_C tc ad (grh_C 1) sa [.ref (ad 0 0)] μ (svPo S μ ad) := by
  refine gMetG_of hI ⟨by decide +kernel, Nat.le_of_ble_eq_true rfl⟩ (fun p e s m args below meth c sz hr hlk => ?_)
  show J p l e ({ frames := 12, cells := 213, slots := 1935, locals := 900 } : Room) s m args below meth c cX6_save 1 RX6 D (gE_C 1) gkd_C tc ad (grh_C 1) sa (gA (gE_C 1) ad sz) s.heap 0 0 (MQ below (gQG D tc (gE_C 1) ad sz (svPo S μ ad)) args s 213 1935 (gA (gE_C 1) ad sz)) μ 0 [(0, .ref (ad 0 0))] []
  refine J_aload_n (i := 0) (q := 0) (pc1 := 1) dX6_save_0 rfl rfl rfl ?_
  refine J_getN (T := TX6) (pc1 := 4) eC0 rfl rfl inX6 1 (by decide) rfl gh0k1 flX6_362 rfl dX6_save_1 rfl ?_
  refine J_ifnnN (pc1 := 7) dX6_save_4 rfl ?_
  refine J_conv3 (E1 := gE_C 1) (ad1 := ad) (rh1 := rhS) hI (fun f i h => ⟨h, rfl, fun k hk => by rw [rhS_o (gE1_nw h) (gRn_k hk)]⟩) ?_
  refine J_conv2 (E1 := gE_C 1) (kd1 := gkd_C) (ad1 := ad) (rh1 := rhS) (μ1 := svM μ) hI (fun f i h => ⟨f, i, h, rfl, by rw [svM_o (gE1_nw h)]⟩) ?_
  have hwS : RW (svM μ) 0 := by
    have W := R.1.w
    have e : ∀ f i, f = 9 ∨ f = 10 → i = 0 → svM μ f i = μ f i := fun f i h1 h2 => svM_o (by unfold nwP0; omega)
    exact ⟨NWq.cg W.1 (fun j _ => by rw [e 9 0 (by omega) rfl]) (fun j => by rw [e 10 0 (by omega) rfl]), fun n hn => by rw [svM_o (by unfold nwP0; omega)]; exact W.2 n hn⟩
  have n6 : (6, 1) ∉ gE_C 1 := fun h => gE1_nw h (by unfold nwP0; omega)
  have z6 : svM μ 6 1 = fun _ => 0 := svM_n (by unfold nwP0; omega) (by decide)
  refine J_aload_n (i := 0) (q := 0) (pc1 := 8) dX6_save_7 rfl rfl rfl ?_
  refine J_newOk (N := 9) (ci := 4) (f0 := 6) (i0 := 1) (Cn := RX0) (T := TX0) (pc1 := 11) n6 rfl rfl inX0 tyX0 tyX0_ok X0_def (fun f i k hm hrl hz => rhS_old hwS hm hrl hz (by unfold nwP0; omega)) (fun k => (rhS_n (by unfold nwP0; omega)).trans (rhK_no rfl)) z6 clX6_9 instX0 iniX0 (Nat.le_of_ble_eq_true rfl) (Nat.le_of_ble_eq_true rfl) dX6_save_8 rfl (fun qC hqC => ?_)
  have iC := gI_snoc (f0 := 6) (i0 := 1) hI n6 hqC
  have eC : ∀ f i, (f, i) ≠ (6, 1) → gAd ad 6 1 qC f i = ad f i := fun f i h => gAd_ne (fun z => h (by rw [z.1, z.2]))
  rw [show (Value.ref qC) = .ref (gAd ad 6 1 qC 6 1) from congrArg Value.ref gAd_at.symm]
  generalize gAd ad 6 1 qC = adC at *
  refine J_dup (pc1 := 12) dX6_save_11 rfl rfl ?_
  have nE : ∀ f i, (f, i) ∈ cluT2 1 → (f, i) ∉ gE_C 1 ++ [(6, 1)] := fun f i h z => by
    rcases List.mem_append.mp z with z | z
    · exact gE1_nw z (cluT2_nw h).1
    · exact (cluT2_nw h).2 (Prod.mk.inj (List.mem_singleton.mp z)).1
  refine J_initD (New := cluT2 1) (pc1 := 15) (ce := 213) (sl := 1935) iC (fun f i k z hm hrl hz hn => by
    rcases List.mem_append.mp hm with hm | hm
    · exact rhS_old hwS hm hrl hz (cluT2_nw hn).1
    · obtain ⟨rfl, rfl⟩ := Prod.mk.inj (List.mem_singleton.mp hm)
      rw [rhS_n (by unfold nwP0; omega), rhK_no (by rw [z6]; rfl)] at hz
      cases hz) (List.mem_append_right _ List.mem_cons_self) nE (clE_S μ) (J_hI (st := .ref (adC 6 1) :: [.ref (ad 0 0)]) (As := []) (iPo_rh (kX0_init l D tc sa (q := 1) (nc := 2) (by decide) z6 (svM_n (by unfold nwP0; omega) (by decide)) (svM_n (by unfold nwP0; omega) (by decide)) (svM_n (by unfold nwP0; omega) (by decide)) svM_10 (fun f i h1 h2 h3 => svM_n (by unfold nwP0; omega) (by omega)) (fun f i h1 h2 h3 => svM_n (by unfold nwP0; omega) (by omega))) (fun f i hm row k => rhS_n (by
        rcases List.mem_cons.mp hm with h | h
        · obtain ⟨rfl, rfl⟩ := Prod.mk.inj h
          unfold nwP0; omega
        · exact (cluT2_nw h).1))) wiX6_11 rfl ⟨Nat.le_of_ble_eq_true rfl, Nat.le_of_ble_eq_true rfl⟩ ⟨Nat.le_of_ble_eq_true rfl, Nat.le_of_ble_eq_true rfl⟩ (Nat.le_of_ble_eq_true rfl) dX6_save_12) rfl rfl rfl (fun adZ iZ eZ => ?_)
  rw [muN_id (fun f i9 h => cluM2_no h)]
  have e00 : adZ 0 0 = ad 0 0 := (eZ 0 0 (fun z => by have := cluT2_in z; omega)).trans (eC 0 0 (by simp))
  rw [show (Value.ref (adC 6 1)) = .ref (adZ 6 1) from congrArg Value.ref (eZ _ _ (fun z => by have := cluT2_in z; omega)).symm, show (Value.ref (ad 0 0)) = .ref (adZ 0 0) from congrArg Value.ref e00.symm]
  refine J_putRN (T := TX6) (f' := 6) (i' := 1) (pc1 := 18) (List.mem_append_left _ (List.mem_append_left _ eC0)) iZ rfl rfl inX6 tyX6 tyX6_ok nmX6 1 (by decide) rfl flX6_362 rfl rfl rfl rfl dX6_save_15 rfl ?_
  have e23 : adZ 23 0 = ad 23 0 := (eZ 23 0 (fun z => by have := (cluT2_nw z).1; unfold nwP0 at this; omega)).trans (eC 23 0 (by simp))
  have hI2 : gI (gE_C 2) adZ := gI_nd (gE_C_nd 2) (fun x h => svE_of h) iZ
  refine J_conv3 (E1 := gE_C 2) (ad1 := adZ) (rh1 := grh_C 2) hI2 (fun f i h => ⟨svE_of h, rfl, fun k hk => by rw [rhS_2 h hk]⟩) ?_
  obtain ⟨⟨r, μ9⟩, h, F9, hv, R0, R1⟩ := mX6_save_ok (nc := 2) (⟨R.1.sv, R.2⟩ : RY B (cluM2 (svM μ) 1) 0 S) (cluW (by decide)) rfl
  have F9 : gFr (rbP 1) (cluM2 (svM μ) 1) μ9 := F9
  have e12 : ∀ f, f ≤ 5 → μ9 f 0 = μ f 0 := fun f hf => by
    funext j
    rw [F9 f 0 j (fun z => by have := rbP_6 z; omega), cluM2_no (fun z => by
      rcases z with z | z
      · omega
      · have := cluT2_in z; omega), svM_o (by unfold nwP0; omega)]
  unfold mX6_save at h
  refine J_aload_n (i := 0) (q := 0) (pc1 := 19) dX6_save_18 rfl rfl rfl ?_
  refine J_getR (T := TX6) (f' := 6) (i' := 1) (pc1 := 22) eC0 rfl rfl inX6 1 (by decide) rfl (gh0k rfl) flX6_362 rfl dX6_save_19 rfl ?_
  refine J_aload_n (i := 0) (q := 0) (pc1 := 23) dX6_save_22 rfl rfl rfl ?_
  refine J_getR (T := TX6) (f' := 6) (i' := 0) (pc1 := 26) eC0 rfl rfl inX6 0 (by decide) rfl rfl flX6_12 rfl dX6_save_23 rfl ?_
  obtain ⟨μ2, hc1, h⟩ := gBp_s h
  refine J_callV (As := [.ref (adZ 6 0)]) (ad := adZ) (f := 6) (i := 1) (st := []) (st1 := []) (pc1 := 29) (kX0_copyFrom l D tc sa adZ 2 (by decide) hI2 1 (by decide) 0 (by decide) _ μ2 hc1) wcX0_copyFrom wlX6_365 (eC6 (nc := 2) (by decide)) rfl rfl rfl ⟨rfl, rfl, Nat.le_of_ble_eq_true rfl, Nat.le_of_ble_eq_true rfl⟩ ⟨Nat.le_of_ble_eq_true rfl, Nat.le_of_ble_eq_true rfl⟩ (Nat.le_of_ble_eq_true rfl) dX6_save_26 rfl rfl ?_
  refine J_aload_n (i := 0) (q := 0) (pc1 := 30) dX6_save_29 rfl rfl rfl ?_
  refine J_getR (T := TX6) (f' := 6) (i' := 1) (pc1 := 33) eC0 rfl rfl inX6 1 (by decide) rfl (gh0k rfl) flX6_362 rfl dX6_save_30 rfl ?_
  refine J_getI (T := TX0) (pc1 := 36) (eC6 (nc := 2) (by decide)) rfl rfl inX0 4 (by decide) rfl flX6_60 rfl dX6_save_33 rfl ?_
  cases h
  exact J_iretG hr hlk ⟨_, rfl, hv, rfl, rfl, e00, e23, rfl, R0, R1, e12 1 (by omega), e12 2 (by omega)⟩ hI2 (Nat.le_of_ble_eq_true rfl) (Nat.le_of_ble_eq_true rfl) dX6_save_36
end Sv2
