/-! what the new replica and the new network point to -/
theorem clE_ap {kd : Nat → gKd} {rh : gRh} {E New : List (Nat × Nat)} {μ μ' : gM} {f0 i0 : Nat} (h : clE kd rh E μ) (h0 : (f0, i0) ∈ E) (hn : clE kd rh ((f0, i0) :: New) μ') (ho : ∀ f i, (f, i) ∈ E → ¬ (f = f0 ∧ i = i0) → μ' f i = μ f i) : clE kd rh (E ++ New) μ' := fun f i k z hm hr hz => by
  have up : ∀ z9, z9 ∈ (f0, i0) :: New → z9 ∈ E ++ New := fun z9 h9 => by
    rcases List.mem_cons.mp h9 with h9 | h9
    · rw [h9]
      exact List.mem_append_left _ h0
    · exact List.mem_append_right _ h9
  rcases List.mem_append.mp hm with hm | hm
  · by_cases e : f = f0 ∧ i = i0
    · exact up z (hn f i k z (by rw [e.1, e.2]; exact List.mem_cons_self) hr hz)
    · rw [ho f i hm e] at hz
      exact List.mem_append_left _ (h f i k z hm hr hz)
  · exact up z (hn f i k z (List.mem_cons_of_mem _ hm) hr hz)
theorem clE_X4 {nc i : Nat} {μ : gM} {x : Int32} : clE gkd_C (rhK nc) ((11, i) :: [(12, i), (16, i), (17, i), (18, i), (13, i), (14, i), (15, i)]) (repM μ i x) := fun f i9 k z hm hr h9 => by
  simp only [List.mem_cons, Prod.mk.injEq, List.not_mem_nil, or_false] at hm
  rcases hm with ⟨rfl, e9⟩ | ⟨rfl, e9⟩ | ⟨rfl, e9⟩ | ⟨rfl, e9⟩ | ⟨rfl, e9⟩ | ⟨rfl, e9⟩ | ⟨rfl, e9⟩ | ⟨rfl, e9⟩
  · rw [e9] at h9
    have q9 : ([1, 2, 3, 4] : List Nat).contains k = true := hr.1
    have q8 : k = 1 ∨ k = 2 ∨ k = 3 ∨ k = 4 := by simpa using q9
    rcases q8 with rfl | rfl | rfl | rfl
    · rw [rhK_at (by simp [repM, w3]), show grh_C nc _ 11 i 1 = some (12, i) from rfl] at h9
      cases h9; simp
    · rw [rhK_at (by simp [repM, w3]), show grh_C nc _ 11 i 2 = some (13, i) from rfl] at h9
      cases h9; simp
    · rw [rhK_at (by simp [repM, w3]), show grh_C nc _ 11 i 3 = some (14, i) from rfl] at h9
      cases h9; simp
    · rw [rhK_at (by simp [repM, w3]), show grh_C nc _ 11 i 4 = some (15, i) from rfl] at h9
      cases h9; simp
  · rw [e9] at h9
    have q9 : ([0, 1, 2] : List Nat).contains k = true := hr.1
    have q8 : k = 0 ∨ k = 1 ∨ k = 2 := by simpa using q9
    rcases q8 with rfl | rfl | rfl
    · rw [rhK_at (by simp [repM, w3]), show grh_C nc _ 12 i 0 = some (16, i) from rfl] at h9
      cases h9; simp
    · rw [rhK_at (by simp [repM, w3]), show grh_C nc _ 12 i 1 = some (17, i) from rfl] at h9
      cases h9; simp
    · rw [rhK_at (by simp [repM, w3]), show grh_C nc _ 12 i 2 = some (18, i) from rfl] at h9
      cases h9; simp
  · exact (show False from hr).elim
  · exact (show False from hr).elim
  · exact (show False from hr).elim
  · exact (show False from hr).elim
  · exact (show False from hr).elim
  · exact (show False from hr).elim
theorem repM_ne {μ : gM} {i f j : Nat} {x : Int32} (h : ¬ (f = 11 ∧ j = i)) (h2 : ¬ (f = 12 ∧ j = i)) : repM μ i x f j = μ f j := by
  unfold repM
  rw [w3_ne h, w3_ne h, w3_ne h, w3_ne h, w3_ne h2, w3_ne h2, w3_ne h2, w3_ne h]
theorem repM_id {μ : gM} {i : Nat} {x : Int32} : repM μ i x 11 i 0 = x := by
  simp [repM, w3]
section SqH1
variable {nc q : Nat} {μ : gM}
theorem clE_net0 (hz9 : μ 9 q = fun _ => 0) (hz10 : μ 10 q = fun _ => -1) : clE gkd_C (rhK nc) (netE q 0) (netM μ q 0) := by
  have c0 : clE gkd_C (rhK nc) [(9, q)] μ := fun f i9 k z hm hr h9 => by
    obtain ⟨rfl, rfl⟩ := Prod.mk.inj (List.mem_singleton.mp hm)
    rw [rhK_no (by rw [hz9]; rfl)] at h9
    cases h9
  have c1 : clE gkd_C (rhK nc) ([(9, q)] ++ [(10, q)]) μ := clE_new c0 (fun k _ => rhK_no (by rw [hz10]; rfl))
  exact clE_put (f := 9) (i := q) (k0 := 0) (v := 1) (z := (10, q)) c1 netE_10 (fun j => rhK_put (by decide) (fun r r' k h => gn9 h) (fun r _ => rfl) _ j)
theorem clE_msg {E : List (Nat × Nat)} {t : Nat} (h : clE gkd_C (rhK nc) E μ) (hE : (19, t) ∉ E) (hz : μ 19 t = fun _ => 0) : clE gkd_C (rhK nc) ((E ++ [(19, t)]) ++ [(20, t), (21, t), (22, t)]) (msgM μ t) :=
  clE_ap (clE_new (f0 := 19) (i0 := t) h (fun k _ => rhK_no (by rw [hz]; rfl))) (List.mem_append_right _ List.mem_cons_self) (clE_X2 hz) (fun f i _ hn => msgM_ne hn)
theorem clE_net (hq : q < 2) (hz9 : μ 9 q = fun _ => 0) (hz10 : μ 10 q = fun _ => -1) (hz : ∀ f i, 19 ≤ f → f ≤ 22 → 42 * q ≤ i → μ f i = fun _ => 0) : ∀ k, k ≤ 40 → clE gkd_C (rhK nc) (netE q k) (netM μ q k)
  | 0, _ => clE_net0 hz9 hz10
  | k + 1, hk => by
    have c1 := clE_msg (clE_net hq hz9 hz10 hz k (by omega)) (netE_no (Nat.le_refl _) (by decide)) (netM_z hz (Nat.le_refl _) (by decide))
    have c2 := clE_put (f := 10) (i := q) (k0 := k) (v := nI (42 * q + k)) (z := (19, 42 * q + k)) c1 (List.mem_append_left _ (List.mem_append_right _ List.mem_cons_self)) (fun j => rhK_put (ids_ne1 (by omega)) (fun r r' k h => gn10 h) (fun r h => by show some (19, (r _).toNatClampNeg) = _; rw [h, nI_clamp (by omega)]) _ j)
    exact c2
theorem clE_X3 (hq : q < 2) (hz9 : μ 9 q = fun _ => 0) (hz10 : μ 10 q = fun _ => -1) (hz : ∀ f i, 19 ≤ f → f ≤ 22 → 42 * q ≤ i → μ f i = fun _ => 0) : clE gkd_C (rhK nc) ((9, q) :: netT2 q) (netM2 μ q) := by
  have c1 := clE_msg (clE_net (nc := nc) hq hz9 hz10 hz 40 (Nat.le_refl _)) (netE_no (Nat.le_refl _) (by decide)) (netM_z hz (Nat.le_refl _) (by decide))
  have c2 := clE_put (f := 9) (i := q) (k0 := 1) (v := nI (42 * q + 40)) (z := (19, 42 * q + 40)) c1 (List.mem_append_left _ (List.mem_append_right _ List.mem_cons_self)) (fun j => rhK_put (ids_ne0 (by omega) (by omega)) (fun r r' k h => gn9 h) (fun r h => by show some (19, (r _).toNatClampNeg) = _; rw [h, nI_clamp (by omega)]) _ j)
  have c3 := clE_msg (t := 42 * q + 41) (show clE gkd_C (rhK nc) (netE1 q) (netM1 μ q) from c2) (netE1_no (by decide)) (netM1_z hz (by decide))
  have c4 := clE_put (f := 9) (i := q) (k0 := 2) (v := nI (42 * q + 41)) (z := (19, 42 * q + 41)) c3 (List.mem_append_left _ (List.mem_append_right _ List.mem_cons_self)) (fun j => rhK_put (ids_ne0 (by omega) (by omega)) (fun r r' k h => gn9 h) (fun r h => by show some (19, (r _).toNatClampNeg) = _; rw [h, nI_clamp (by omega)]) _ j)
  exact c4
end SqH1
/-- a cluster's cells with k replicas made; its memory -/
def cluT (q : Nat) : Nat → List (Nat × Nat)
  | 0 => [(7, q)]
  | k + 1 => (cluT q k ++ [(11, 5 * q + k)]) ++ [(12, 5 * q + k), (16, 5 * q + k), (17, 5 * q + k), (18, 5 * q + k), (13, 5 * q + k), (14, 5 * q + k), (15, 5 * q + k)]
def cluE (q k : Nat) : List (Nat × Nat) := (6, q) :: cluT q k
def cluM (μ : gM) (q : Nat) : Nat → gM
  | 0 => w3 μ 6 q 0 1
  | k + 1 => w3 (repM (cluM μ q k) (5 * q + k) (nI k)) 7 q k 1
def cluT1 (q : Nat) : List (Nat × Nat) := (cluT q 5 ++ [(9, q)]) ++ netT2 q
def cluM1 (μ : gM) (q : Nat) : gM := w3 (netM2 (cluM μ q 5) q) 6 q 1 1
def cluT2 (q : Nat) : List (Nat × Nat) := cluT1 q ++ [(8, q)]
def cluM2 (μ : gM) (q : Nat) : gM := w3 (cluM1 μ q) 6 q 2 1
theorem cluT_in {q f i : Nat} : ∀ k, (f, i) ∈ cluT q k → (f = 7 ∧ i = q) ∨ (11 ≤ f ∧ f ≤ 18 ∧ i < 5 * q + k)
  | 0, h => by
    obtain ⟨rfl, rfl⟩ := Prod.mk.inj (List.mem_singleton.mp h)
    exact Or.inl ⟨rfl, rfl⟩
  | k + 1, h => by
    rcases List.mem_append.mp h with h | h
    · rcases List.mem_append.mp h with h | h
      · rcases cluT_in k h with h | h
        · exact Or.inl h
        · exact Or.inr ⟨h.1, h.2.1, by omega⟩
      · obtain ⟨rfl, rfl⟩ := Prod.mk.inj (List.mem_singleton.mp h)
        exact Or.inr ⟨by omega, by omega, by omega⟩
    · simp only [List.mem_cons, Prod.mk.injEq, List.not_mem_nil, or_false] at h
      exact Or.inr ⟨by omega, by omega, by omega⟩
theorem cluE_no {q k f i : Nat} (hi : 5 * q + k ≤ i) (hf : 11 ≤ f) : (f, i) ∉ cluE q k := fun h => by
  rcases List.mem_cons.mp h with h | h
  · have := (Prod.mk.inj h).1; omega
  · rcases cluT_in k h with h | h <;> omega
theorem cluE_7 {q : Nat} : ∀ {k : Nat}, (7, q) ∈ cluE q k
  | 0 => List.mem_cons_of_mem _ List.mem_cons_self
  | k + 1 => by
    refine List.mem_cons_of_mem _ (List.mem_append_left _ (List.mem_append_left _ ?_))
    rcases List.mem_cons.mp (cluE_7 (q := q) (k := k)) with h | h
    · have := (Prod.mk.inj h).1; omega
    · exact h
theorem cluM_o {μ : gM} {q f i : Nat} (h6 : ¬ (f = 6 ∧ i = q)) (h7 : ¬ (f = 7 ∧ i = q)) : ∀ k, (f = 11 ∨ f = 12 → 5 * q + k ≤ i) → cluM μ q k f i = μ f i
  | 0, _ => w3_ne h6
  | k + 1, h => by
    show w3 (repM (cluM μ q k) (5 * q + k) _) 7 q k _ f i = _
    rw [w3_ne h7, repM_ne (fun z => by have := h (Or.inl z.1); omega) (fun z => by have := h (Or.inr z.1); omega), cluM_o h6 h7 k (fun z => by have := h z; omega)]
theorem cluM_60 {μ : gM} {q : Nat} : ∀ {k : Nat}, cluM μ q k 6 q 0 = 1
  | 0 => by
    show w3 μ 6 q 0 1 6 q 0 = 1
    simp [w3]
  | k + 1 => by
    show w3 (repM (cluM μ q k) (5 * q + k) _) 7 q k _ 6 q 0 = _
    rw [w3_ne (by omega), repM_ne (by omega) (by omega), cluM_60 (k := k)]
