/-! the text of a log as letters; the reference's row of letters -/
/-- the letters of an int -/
def txI (x : Int32) : List Nat := (List.range (sb_lenI x)).map (sb_decI x)
/-- an entry; whether it is committed; the text after k entries -/
def txE (e : sqE) : List Nat := txI (Int32.ofNat (sqT e)) ++ ([58] ++ ((if e.2.1 = 1 then [74] else if e.2.1 = 2 then [67] else []) ++ (if e.2.1 = 3 then [45] else txI e.2.2)))
def txC (N : sqN) (j : Nat) : List Nat := if j + 1 ≤ ncm N then [33] else []
def txK (N : sqN) : Nat → List Nat
  | 0 => if nbs N = 0 then [] else [91] ++ (txI (Int32.ofNat (nbs N)) ++ [93])
  | k + 1 => txK N k ++ ((if txK N k = [] then [] else [32]) ++ (txE ((nlg N).getD (nbs N + k) (0, 0, 0)) ++ txC N (nbs N + k)))
def txL (N : sqN) : List Nat := txK N ((nlg N).length - nbs N)
theorem txI_len (x : Int32) : (txI x).length = sb_lenI x := by simp [txI]
theorem txI_le (x : Int32) : (txI x).length ≤ 11 := by
  rw [txI_len]
  exact (sb_lenI_le x).2
theorem txE_le (e : sqE) : (txE e).length ≤ 24 := by
  have h1 := txI_le (Int32.ofNat (sqT e))
  have h2 := txI_le e.2.2
  have h3 : (if e.2.1 = 1 then [74] else if e.2.1 = 2 then [67] else ([] : List Nat)).length ≤ 1 := by
    split
    · simp
    · split <;> simp
  have h4 : (if e.2.1 = 3 then [45] else txI e.2.2).length ≤ 11 := by
    split
    · simp
    · exact h2
  unfold txE
  simp only [List.length_append, List.length_cons, List.length_nil]
  omega
theorem txE_ne (e : sqE) : txE e ≠ [] := by
  unfold txE
  simp
theorem txC_le (N : sqN) (j : Nat) : (txC N j).length ≤ 1 := by
  unfold txC
  split <;> simp
theorem txK_le (N : sqN) : ∀ k, (txK N k).length ≤ 13 + 26 * k
  | 0 => by
    have h1 := txI_le (Int32.ofNat (nbs N))
    unfold txK
    split
    · simp
    · simp only [List.length_append, List.length_cons, List.length_nil]
      omega
  | k + 1 => by
    have h1 := txK_le N k
    have h2 := txE_le ((nlg N).getD (nbs N + k) (0, 0, 0))
    have h3 := txC_le N (nbs N + k)
    unfold txK
    simp only [List.length_append]
    split <;> simp only [List.length_cons, List.length_nil] <;> omega
theorem sb_dec_lt (v i : Nat) : sb_dec v i < 256 := by unfold sb_dec; omega
theorem sb_decI_lt (x : Int32) (i : Nat) : sb_decI x i < 256 := by
  unfold sb_decI
  split
  · unfold sb_decN
    split
    · decide
    · exact sb_dec_lt _ _
  · exact sb_dec_lt _ _
theorem txI_lt {x : Int32} {c : Nat} (h : c ∈ txI x) : c < 256 := by
  obtain ⟨i, -, rfl⟩ := List.mem_map.mp h
  exact sb_decI_lt x i
theorem txE_lt {e : sqE} {c : Nat} (h : c ∈ txE e) : c < 256 := by
  unfold txE at h
  rcases List.mem_append.mp h with h | h
  · exact txI_lt h
  · rcases List.mem_append.mp h with h | h
    · rw [List.mem_singleton.mp h]; decide
    · rcases List.mem_append.mp h with h | h
      · split at h
        · rw [List.mem_singleton.mp h]; decide
        · split at h
          · rw [List.mem_singleton.mp h]; decide
          · exact absurd h List.not_mem_nil
      · split at h
        · rw [List.mem_singleton.mp h]; decide
        · exact txI_lt h
theorem txK_lt (N : sqN) : ∀ k c, c ∈ txK N k → c < 256
  | 0, c, h => by
    unfold txK at h
    split at h
    · exact absurd h List.not_mem_nil
    · rcases List.mem_append.mp h with h | h
      · rw [List.mem_singleton.mp h]; decide
      · rcases List.mem_append.mp h with h | h
        · exact txI_lt h
        · rw [List.mem_singleton.mp h]; decide
  | k + 1, c, h => by
    unfold txK at h
    rcases List.mem_append.mp h with h | h
    · exact txK_lt N k c h
    · rcases List.mem_append.mp h with h | h
      · split at h
        · exact absurd h List.not_mem_nil
        · rw [List.mem_singleton.mp h]; decide
      · rcases List.mem_append.mp h with h | h
        · exact txE_lt h
        · unfold txC at h
          split at h
          · rw [List.mem_singleton.mp h]; decide
          · exact absurd h List.not_mem_nil
/-- the letters L behind the p letters so far -/
def wT (μ : gM) (p : Nat) : List Nat → gM
  | [] => μ
  | c :: L => wT (wL μ p c) (p + 1) L
theorem wT_app (L' : List Nat) : ∀ (L : List Nat) (μ : gM) (p : Nat), wT μ p (L ++ L') = wT (wT μ p L) (p + L.length) L'
  | [], μ, p => rfl
  | c :: L, μ, p => by
    show wT (wL μ p c) (p + 1) (L ++ L') = wT (wT (wL μ p c) (p + 1) L) (p + (L.length + 1)) L'
    rw [wT_app L' L (wL μ p c) (p + 1), show p + 1 + L.length = p + (L.length + 1) by omega]
theorem wT_one (μ : gM) (p c : Nat) : wT μ p [c] = wL μ p c := rfl
theorem wT_cnt : ∀ (L : List Nat) {μ : gM} {p : Nat} (_ : μ 0 0 13 = nI p), wT μ p L 0 0 13 = nI (p + L.length)
  | [], _, _, h => h
  | c :: L, μ, p, _ => by
    show wT (wL μ p c) (p + 1) L 0 0 13 = _
    rw [wT_cnt L (wL_cnt μ p c), show p + 1 + L.length = p + (c :: L).length by simp; omega]
theorem wTf_eq (μ : gM) (p : Nat) (t : Nat → Nat) : ∀ k, wTf μ p t k = wT μ p ((List.range k).map t)
  | 0 => rfl
  | k + 1 => by
    show wL (wTf μ p t k) (p + k) (t k) = _
    rw [List.range_succ, List.map_append, wT_app, ← wTf_eq μ p t k, List.length_map, List.length_range]
    rfl
theorem wTf_I (μ : gM) (p : Nat) (x : Int32) : wTf μ p (sb_decI x) (sb_lenI x) = wT μ p (txI x) := wTf_eq _ _ _ _
theorem wL_o {μ : gM} {p c f i : Nat} (h : f ≠ 12) (h0 : f ≠ 0) : wL μ p c f i = μ f i := by
  unfold wL
  rw [w3_ne (fun z => h0 z.1), w3_ne (fun z => h z.1)]
theorem wT_o {f i : Nat} (h : f ≠ 12) (h0 : f ≠ 0) : ∀ (L : List Nat) (μ : gM) (p : Nat), wT μ p L f i = μ f i
  | [], μ, p => rfl
  | c :: L, μ, p => by
    show wT (wL μ p c) (p + 1) L f i = _
    rw [wT_o h h0 L, wL_o h h0]
theorem wL_0 {μ : gM} {p c k : Nat} (h : k ≠ 13) : wL μ p c 0 0 k = μ 0 0 k := by
  unfold wL w3
  rw [if_neg (by omega), if_neg (by omega)]
theorem wT_0 {k : Nat} (h : k ≠ 13) : ∀ (L : List Nat) (μ : gM) (p : Nat), wT μ p L 0 0 k = μ 0 0 k
  | [], μ, p => rfl
  | c :: L, μ, p => by
    show wT (wL μ p c) (p + 1) L 0 0 k = _
    rw [wT_0 h L, wL_0 h]
theorem wL_12 {μ : gM} {p c j : Nat} : wL μ p c 12 0 j = if j = p then nI c else μ 12 0 j := by
  unfold wL w3
  rw [if_neg (by omega)]
  by_cases e : j = p
  · rw [if_pos ⟨rfl, rfl, e⟩, if_pos e]
  · rw [if_neg (fun z => e z.2.2), if_neg e]
theorem wT_lo : ∀ (L : List Nat) (μ : gM) (p j : Nat), j < p → wT μ p L 12 0 j = μ 12 0 j
  | [], μ, p, j, _ => rfl
  | c :: L, μ, p, j, h => by
    show wT (wL μ p c) (p + 1) L 12 0 j = _
    rw [wT_lo L _ _ j (by omega), wL_12, if_neg (by omega)]
/-- what the row of letters holds then -/
theorem wT_at : ∀ (L : List Nat) (μ : gM) (p j : Nat), j < L.length → wT μ p L 12 0 (p + j) = nI (L.getD j 0)
  | [], μ, p, j, h => absurd h (Nat.not_lt_zero j)
  | c :: L, μ, p, j, h => by
    show wT (wL μ p c) (p + 1) L 12 0 (p + j) = _
    cases j with
    | zero => rw [wT_lo L _ _ _ (by omega), wL_12, if_pos (by omega)]; rfl
    | succ j =>
      rw [show p + (j + 1) = p + 1 + j by omega, wT_at L _ _ j (by simpa using h)]
      rfl
