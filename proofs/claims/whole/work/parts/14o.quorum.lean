/-! QuorumLog() -/
theorem wlX6_3o : Cond.methodLink RX6 3 Lib.objectInit ∈ BIG := bigT1 (i := 37) rfl rfl
theorem clX6_9 : Cond.classLink RX6 9 RX0 ∈ BIG := bigT1 (i := 40) rfl rfl
theorem clX6_16 : Cond.classLink RX6 16 RX5 ∈ BIG := bigT2 (i := 91) rfl rfl
theorem clX6_23 : Cond.classLink RX6 23 RJ4 ∈ BIG := bigT2 (i := 121) rfl rfl
theorem instX0 : Cond.instantiable RX0 9 ∈ BIG := bigT1 (i := 41) rfl rfl
theorem instX5 : Cond.instantiable RX5 6 ∈ BIG := bigT2 (i := 92) rfl rfl
theorem wlX6_11 : Cond.methodLink RX6 11 yX0_init ∈ BIG := bigT1 (i := 42) rfl rfl
theorem imX0_init : Cond.instanceMethod yX0_init ∈ BIG := bigT1 (i := 43) rfl rfl
theorem cdX0_init : Cond.code yX0_init cX0_init 2 (none) ∈ BIG := bigT1 (i := 44) rfl rfl
theorem wiX6_11 : wCi RX6 11 yX0_init cX0_init 2 0 := ⟨⟨wlX6_11, imX0_init, iniX0, cdX0_init⟩, rfl, by decide +kernel⟩
theorem wlX6_18 : Cond.methodLink RX6 18 yX5_init ∈ BIG := bigT2 (i := 93) rfl rfl
theorem imX5_init : Cond.instanceMethod yX5_init ∈ BIG := bigT2 (i := 94) rfl rfl
theorem cdX5_init : Cond.code yX5_init cX5_init 1 (none) ∈ BIG := bigT2 (i := 95) rfl rfl
theorem wiX6_18 : wCi RX6 18 yX5_init cX5_init 1 0 := ⟨⟨wlX6_18, imX5_init, iniX5, cdX5_init⟩, rfl, by decide +kernel⟩
theorem wlX6_25 : Cond.methodLink RX6 25 yJ4_init_da8c8 ∈ BIG := bigT2 (i := 123) rfl rfl
theorem wiX6_25 : wCi RX6 25 yJ4_init_da8c8 cJ4_init_da8c8 1 0 := ⟨⟨wlX6_25, imJ4_init_da8c8, iniJ4, cdJ4_init_da8c8⟩, rfl, by decide +kernel⟩
section SE5
variable (l : Launch) (D : va_G) (tc : Nat → ClassId) (sa : Nat → Nat)
theorem X0_def : ∀ k, k < 9 → defaultValue (tyX0 k) = if ([0, 1, 2] : List Nat).contains k then .null else .int 0 := fun k hk => by
  match k, hk with
  | 0, _ => rfl
  | 1, _ => rfl
  | 2, _ => rfl
  | 3, _ => rfl
  | 4, _ => rfl
  | 5, _ => rfl
  | 6, _ => rfl
  | 7, _ => rfl
  | 8, _ => rfl
  | k + 9, hk => exact absurd hk (by omega)
theorem X5_def : ∀ k, k < 6 → defaultValue (tyX5 k) = if ([0, 1, 2, 3] : List Nat).contains k then .null else .int 0 := fun k hk => by
  match k, hk with
  | 0, _ => rfl
  | 1, _ => rfl
  | 2, _ => rfl
  | 3, _ => rfl
  | 4, _ => rfl
  | 5, _ => rfl
  | k + 6, hk => exact absurd hk (by omega)
theorem cluT2_in {q f i : Nat} (h : (f, i) ∈ cluT2 q) : 7 ≤ f := by
  rcases List.mem_append.mp h with h | h
  · rcases List.mem_append.mp h with h | h
    · rcases List.mem_append.mp h with h | h
      · rcases cluT_in 5 h with h | h <;> omega
      · have := (Prod.mk.inj (List.mem_singleton.mp h)).1; omega
    · have := netT2_in h; omega
  · have := (Prod.mk.inj (List.mem_singleton.mp h)).1; omega
theorem cluM_no {μ : gM} {q f i : Nat} : ∀ k, ¬ (f = 6 ∧ i = q) → ¬ (f = 7 ∧ i = q) → ¬ ((f = 11 ∨ f = 12) ∧ 5 * q ≤ i ∧ i < 5 * q + k) → cluM μ q k f i = μ f i
  | 0, h6, _, _ => w3_ne h6
  | k + 1, h6, h7, h => by
    show w3 (repM (cluM μ q k) (5 * q + k) (nI k)) 7 q k 1 f i = _
    rw [w3_ne h7, repM_ne (fun z => h ⟨Or.inl z.1, by omega⟩) (fun z => h ⟨Or.inr z.1, by omega⟩), cluM_no k h6 h7 (fun z => h ⟨z.1, by omega⟩)]
theorem cluM2_no {μ : gM} {q f i : Nat} (h : ¬ ((f = 6 ∧ i = q) ∨ (f, i) ∈ cluT2 q)) : cluM2 μ q f i = μ f i := by
  have h6 : ¬ (f = 6 ∧ i = q) := fun z => h (Or.inl z)
  have hN : (f, i) ∉ cluT2 q := fun z => h (Or.inr z)
  have h7 : ¬ (f = 7 ∧ i = q) := fun z => hN (cluT2_mem (Or.inl z))
  unfold cluM2 cluM1
  rw [w3_ne h6, w3_ne h6, netM2_no (fun z => by
    rcases z with z | z
    · exact hN (cluT2_mem (Or.inr (Or.inl ⟨by omega, by omega, z.2⟩)))
    · exact hN (List.mem_append_left _ (List.mem_append_right _ z))), cluM_no 5 h6 h7 (fun z => hN (cluT2_mem (Or.inr (Or.inr (Or.inl ⟨by omega, by omega, z.2.1, z.2.2⟩)))))]
theorem rhK_1 {nc k : Nat} {row : Nat → Int32} {z : Nat × Nat} (h : rhK nc row 1 0 k = some z) : z = (2 + k, 0) := by
  by_cases hn : row k = (if (1 : Nat) = 10 then -1 else 0)
  · rw [rhK_no hn] at h
    cases h
  · rw [rhK_at hn] at h
    exact (Option.some.inj h).symm
theorem clE_X5 {nc : Nat} {μ : gM} : clE gkd_C (rhK nc) ((1, 0) :: [(2, 0), (3, 0), (4, 0), (5, 0)]) (w3 (w3 (w3 (w3 μ 1 0 0 1) 1 0 1 1) 1 0 2 1) 1 0 3 1) := fun f i k z hm hr hz => by
  have hfi : i = 0 ∧ (f = 1 ∨ f = 2 ∨ f = 3 ∨ f = 4 ∨ f = 5) := by
    simp only [List.mem_cons, Prod.mk.injEq, List.not_mem_nil, or_false] at hm
    omega
  obtain ⟨rfl, h⟩ := hfi
  rcases h with rfl | rfl | rfl | rfl | rfl
  · have h9 : ([0, 1, 2, 3] : List Nat).contains k = true := hr.1
    have h8 : k = 0 ∨ k = 1 ∨ k = 2 ∨ k = 3 := by simpa using h9
    rw [rhK_1 hz]
    rcases h8 with rfl | rfl | rfl | rfl <;> decide
  · exact (show False from hr).elim
  · exact (show False from hr).elim
  · exact (show False from hr).elim
  · exact (show False from hr).elim
theorem gE_C_nd (nc : Nat) : (gE_C nc).Nodup := by
  unfold gE_C List.Nodup
  rw [List.pairwise_flatMap]
  refine ⟨fun f hf => ?_, ?_⟩
  · rw [List.pairwise_map]
    exact List.Pairwise.imp (fun h e => h (Prod.mk.inj e).2) List.nodup_range
  · refine List.Pairwise.imp (fun {a b} h x hx y hy e => ?_) List.nodup_range
    obtain ⟨i, -, rfl⟩ := List.mem_map.mp hx
    obtain ⟨j, -, rfl⟩ := List.mem_map.mp hy
    exact h (Prod.mk.inj e).1
theorem gI_nd {E E1 : List (Nat × Nat)} {ad : Nat → Nat → Nat} (hn : E1.Nodup) (hs : ∀ x, x ∈ E1 → x ∈ E) (hI : gI E ad) : gI E1 ad := fun i j p q hi hj he => by
  have e := gI_mem hI (hs p (List.mem_of_getElem? hi)) (hs q (List.mem_of_getElem? hj)) he
  subst e
  exact (List.getElem?_inj (List.getElem?_eq_some_iff.mp hi).1 hn).mp (hi.trans hj.symm)
theorem mxM_w3b {a b : gM} {f i k : Nat} {v : Int32} : w3 (mxM a b) (f + 30) i k v = mxM a (w3 b f i k v) := by
  funext f9 i9 k9
  show (if f9 = f + 30 ∧ i9 = i ∧ k9 = k then v else (if f9 < 30 then a f9 i9 k9 else b (f9 - 30) i9 k9)) = (if f9 < 30 then a f9 i9 k9 else (if f9 - 30 = f ∧ i9 = i ∧ k9 = k then v else b (f9 - 30) i9 k9))
  by_cases h : f9 < 30
  · rw [if_pos h, if_pos h, if_neg (by omega)]
  · rw [if_neg h, if_neg h]
    by_cases e : f9 = f + 30 ∧ i9 = i ∧ k9 = k
    · rw [if_pos e, if_pos ⟨by omega, e.2⟩]
    · rw [if_neg e, if_neg (fun z => e ⟨by omega, z.2⟩)]
theorem mxR_b {ra rb : gRh} {Ma Mb : gM} {f i k : Nat} : mxR ra rb (mxM Ma Mb (f + 30) i) (f + 30) i k = (rb (Mb f i) f i k).map (fun z => (z.1 + 30, z.2)) := by
  have e1 : mxM Ma Mb (f + 30) i = Mb f i := by
    funext k
    show (if f + 30 < 30 then _ else Mb (f + 30 - 30) i k) = _
    rw [if_neg (by omega), Nat.add_sub_cancel]
  rw [e1]
  show (if f + 30 < 30 then _ else (rb (Mb f i) (f + 30 - 30) i k).map (fun z => (z.1 + 30, z.2))) = _
  rw [if_neg (by omega), Nat.add_sub_cancel]
theorem gRn_mx {ka kb : Nat → gKd} {f k : Nat} (h : gRn (mxK ka kb) (f + 30) k) : gRn kb f k := by
  unfold gRn at h ⊢
  have e : mxK ka kb (f + 30) = kb f := by
    show (if f + 30 < 30 then _ else kb (f + 30 - 30)) = _
    rw [if_neg (by omega), Nat.add_sub_cancel]
  rw [e] at h
  exact h
/-- the memory before QuorumLog() -/
def qlM0 : gM := fun f _ _ => if f = 10 then -1 else 0
def qlM1 : gM := w3 (w3 (w3 (w3 (w3 (w3 (cluM2 qlM0 0) 0 0 0 1) 1 0 0 1) 1 0 1 1) 1 0 2 1) 1 0 3 1) 0 0 2 1
def qlE : List (Nat × Nat) := ((([(0, 0)] ++ [(6, 0)]) ++ cluT2 0) ++ [(1, 0)]) ++ [(2, 0), (3, 0), (4, 0), (5, 0)]
theorem qlE0 : (0, 0) ∈ qlE := List.mem_append_left _ (List.mem_append_left _ (List.mem_append_left _ (List.mem_append_left _ List.mem_cons_self)))
theorem netT_lt {q f i : Nat} : ∀ k, (f, i) ∈ netT q k → f < 23
  | 0, h => by
    have := (Prod.mk.inj (List.mem_singleton.mp h)).1; omega
  | k + 1, h => by
    rcases List.mem_append.mp h with h | h
    · rcases List.mem_append.mp h with h | h
      · exact netT_lt k h
      · have := (Prod.mk.inj (List.mem_singleton.mp h)).1; omega
    · simp only [List.mem_cons, Prod.mk.injEq, List.not_mem_nil, or_false] at h
      omega
theorem netT2_lt {q f i : Nat} (h : (f, i) ∈ netT2 q) : f < 23 := by
  rcases List.mem_append.mp h with h | h
  · rcases List.mem_append.mp h with h | h
    · exact netT_lt 41 h
    · have := (Prod.mk.inj (List.mem_singleton.mp h)).1; omega
  · simp only [List.mem_cons, Prod.mk.injEq, List.not_mem_nil, or_false] at h
    omega
theorem qlT_lt {f i : Nat} (h : (f, i) ∈ cluT2 0) : f < 23 := by
  rcases List.mem_append.mp h with h | h
  · rcases List.mem_append.mp h with h | h
    · rcases List.mem_append.mp h with h | h
      · rcases cluT_in 5 h with h | h <;> omega
      · have := (Prod.mk.inj (List.mem_singleton.mp h)).1; omega
    · exact netT2_lt h
  · have := (Prod.mk.inj (List.mem_singleton.mp h)).1; omega
theorem qlE_in {f i : Nat} (h : (f, i) ∈ qlE) : f < 23 := by
  rcases List.mem_append.mp h with h | h
  · rcases List.mem_append.mp h with h | h
    · rcases List.mem_append.mp h with h | h
      · simp at h
        omega
      · exact qlT_lt h
    · simp at h
      omega
  · simp at h
    omega
theorem gcnt1 {f i : Nat} (hf : f < 23) (h : i < gcnt 1 f) : (f ≤ 10 ∧ i = 0) ∨ (11 ≤ f ∧ f ≤ 18 ∧ i < 5) ∨ (19 ≤ f ∧ f ≤ 22 ∧ i < 42) := by
  rcases (show f = 0 ∨ f = 1 ∨ f = 2 ∨ f = 3 ∨ f = 4 ∨ f = 5 ∨ f = 6 ∨ f = 7 ∨ f = 8 ∨ f = 9 ∨ f = 10 ∨ f = 11 ∨ f = 12 ∨ f = 13 ∨ f = 14 ∨ f = 15 ∨ f = 16 ∨ f = 17 ∨ f = 18 ∨ f = 19 ∨ f = 20 ∨ f = 21 ∨ f = 22 by omega) with rfl | rfl | rfl | rfl | rfl | rfl | rfl | rfl | rfl | rfl | rfl | rfl | rfl | rfl | rfl | rfl | rfl | rfl | rfl | rfl | rfl | rfl | rfl
  all_goals
    simp [gcnt] at h
    omega
theorem qlE_of {x : Nat × Nat} (h : x ∈ gE_C 1) : x ∈ qlE := by
  obtain ⟨f, i⟩ := x
  obtain ⟨h1, h2⟩ := gE_C_mem.mp h
  have h3 := gcnt1 h1 h2
  by_cases h5 : f ≤ 5
  · have hi : i = 0 := by omega
    rw [hi]
    rcases (show f = 0 ∨ f = 1 ∨ f = 2 ∨ f = 3 ∨ f = 4 ∨ f = 5 by omega) with e | e | e | e | e | e
    · rw [e]; exact qlE0
    · rw [e]; exact List.mem_append_left _ (List.mem_append_right _ List.mem_cons_self)
    all_goals
      rw [e]; exact List.mem_append_right _ (by simp)
  · by_cases h6 : f = 6
    · have hi : i = 0 := by omega
      rw [hi, h6]
      exact List.mem_append_left _ (List.mem_append_left _ (List.mem_append_left _ (by simp)))
    · exact List.mem_append_left _ (List.mem_append_left _ (List.mem_append_right _ (cluT2_mem (by omega))))
theorem qlPut (row : Nat → Int32) (k : Nat) : mxR sRh (rhK 1) (upd row 3 1) 30 0 k = if k = 3 then some (53, 0) else mxR sRh (rhK 1) row 30 0 k := by
  show (rhK 1 (upd row 3 1) 0 0 k).map (fun z => (z.1 + 30, z.2)) = if k = 3 then some (53, 0) else (rhK 1 row 0 0 k).map (fun z => (z.1 + 30, z.2))
  rw [rhK_put (z := (23, 0)) (by decide) (fun r r' k h => gh0) (fun r _ => rfl)]
  by_cases h : k = 3
  · rw [if_pos h, if_pos h]; rfl
  · rw [if_neg h, if_neg h]
theorem qlM1_hi {f i : Nat} (h : 6 ≤ f) : w3 qlM1 0 0 3 1 f i = cluM2 qlM0 0 f i := by
  unfold qlM1
  rw [w3_ne (by omega), w3_ne (by omega), w3_ne (by omega), w3_ne (by omega), w3_ne (by omega), w3_ne (by omega), w3_ne (by omega)]
theorem ql01 : w3 qlM1 0 0 3 1 0 0 1 = (if (0 : Nat) = 10 then -1 else 0) := by
  have e : cluM2 qlM0 0 0 0 1 = 0 := by
    rw [cluM2_no (fun z => by
      rcases z with z | z
      · omega
      · have := cluT2_in z; omega)]
    rfl
  unfold qlM1
  simp [w3, e]
theorem ql14 : w3 qlM1 0 0 3 1 1 0 4 = 0 := by
  have e : cluM2 qlM0 0 1 0 4 = 0 := by
    rw [cluM2_no (fun z => by
      rcases z with z | z
      · omega
      · have := cluT2_in z; omega)]
    rfl
  unfold qlM1
  simp [w3, e]
theorem qlR {f i k : Nat} (h : (f, i) ∈ gE_C 1) (hk : gRn gkd_C f k) : rhK 1 (w3 qlM1 0 0 3 1 f i) f i k = grh_C 1 (w3 qlM1 0 0 3 1 f i) f i k := by
  obtain ⟨h1, h2⟩ := gE_C_mem.mp h
  have h3 := gcnt1 h1 h2
  by_cases h6 : 6 ≤ f
  · rw [qlM1_hi h6]
    exact rhK_at (cluK (by decide) (by omega) hk)
  · have hi : i = 0 := by omega
    rw [hi]
    rcases (show f = 0 ∨ f = 1 ∨ f = 2 ∨ f = 3 ∨ f = 4 ∨ f = 5 by omega) with e | e | e | e | e | e
    · rw [e] at hk ⊢
      have h9 : ([0, 1, 2, 3] : List Nat).contains k = true := gRn_o hk rfl
      have h8 : k = 0 ∨ k = 1 ∨ k = 2 ∨ k = 3 := by simpa using h9
      rcases h8 with e8 | e8 | e8 | e8 <;> rw [e8]
      · exact rhK_at (by decide)
      · rw [rhK_no ql01]; rfl
      · exact rhK_at (by decide)
      · exact rhK_at (by decide)
    · rw [e] at hk ⊢
      have h9 : ([0, 1, 2, 3] : List Nat).contains k = true := gRn_o hk rfl
      have h8 : k = 0 ∨ k = 1 ∨ k = 2 ∨ k = 3 := by simpa using h9
      rcases h8 with e8 | e8 | e8 | e8 <;> (rw [e8]; exact rhK_at (by decide))
    all_goals
      rw [e] at hk
      exact (gRn_n hk rfl).elim
theorem qlW : RW (w3 qlM1 0 0 3 1) 0 := by
  have W := cluW (μ := qlM0) (q := 0) (by decide)
  exact ⟨NWq.cg W.1 (fun j _ => by rw [qlM1_hi (by decide)]) (fun j => by rw [qlM1_hi (by decide)]), fun n hn => by rw [qlM1_hi (by decide)]; exact W.2 n hn⟩
/-- a new QuorumLog -/
def qlPo (ad : Nat → Nat → Nat) : gPo := fun o1 E1 kd1 ad1 rh1 μ1 => o1 = none ∧ ∃ (ada adb : Nat → Nat → Nat) (N0 : Nat) (ml : Int32) (arr : Nat → Int32) (μ : gM), E1 = mxE sE (gE_C 1) ∧ kd1 = mxK (sKd 16 N0) gkd_C ∧ ad1 = mxA ada adb ∧ rh1 = mxR sRh (grh_C 1) ∧ μ1 = mxM (sM 0 ml arr) μ ∧ adb 0 0 = ad 0 0 ∧ ada 0 0 = adb 23 0 ∧ sb_Fit arr ∧ RB μ 0 (zBegin 7 0) ∧ μ 1 0 4 = 0
theorem kX6_init {ad : Nat → Nat → Nat} : gMetG l yX6_init cX6_init 1 none ({ frames := 12, cells := 220, slots := 2089, locals := 900 } : Room) D [(0, 0)] gkd_C tc ad (rhK 1) sa [.ref (ad 0 0)] qlM0 (qlPo ad) := by
  refine gMetGi_of gI_one ⟨by decide +kernel, Nat.le_of_ble_eq_true rfl⟩ (fun p e s m args below meth c sz hr hlk hnm0 => ?_)
  show J p l e ({ frames := 12, cells := 220, slots := 2089, locals := 900 } : Room) s m args below meth c cX6_init 1 RX6 D [(0, 0)] gkd_C tc ad (rhK 1) sa (gA [(0, 0)] ad sz) s.heap 0 0 (MQ below (gQG D tc [(0, 0)] ad sz (qlPo ad)) args s 220 2089 (gA [(0, 0)] ad sz)) qlM0 0 [(0, .ref (ad 0 0))] []
  refine J_aload_n (i := 0) (q := 0) (pc1 := 1) dX6_init_0 rfl rfl rfl ?_
  refine J_objInit (pc1 := 4) wlX6_3o imObj cdObj ⟨Nat.le_of_ble_eq_true rfl, Nat.le_of_ble_eq_true rfl⟩ dX6_init_1 rfl ?_
  refine J_aload_n (i := 0) (q := 0) (pc1 := 5) dX6_init_4 rfl rfl rfl ?_
  have c0 : clE gkd_C (rhK 1) [(0, 0)] qlM0 := fun f i9 k z hm hr h9 => by
    obtain ⟨rfl, rfl⟩ := Prod.mk.inj (List.mem_singleton.mp hm)
    rw [rhK_no rfl] at h9
    cases h9
  refine J_newOk (N := 9) (ci := 4) (f0 := 6) (i0 := 0) (Cn := RX0) (T := TX0) (pc1 := 8) (by simp) rfl rfl inX0 tyX0 tyX0_ok X0_def (clE_hrh c0 (by simp)) (fun k => rhK_no rfl) (funext fun _ => rfl) clX6_9 instX0 iniX0 (Nat.le_of_ble_eq_true rfl) (Nat.le_of_ble_eq_true rfl) dX6_init_5 rfl (fun qC hqC => ?_)
  have cC := clE_new (f0 := 6) (i0 := 0) c0 (fun k _ => rhK_no (congrFun ((funext fun _ => rfl)) k))
  have iC := gI_snoc (f0 := 6) (i0 := 0) gI_one (by simp) hqC
  have eC : gAd ad 6 0 qC 0 0 = ad 0 0 := gAd_ne (by simp)
  rw [show (Value.ref qC) = .ref (gAd ad 6 0 qC 6 0) from congrArg Value.ref gAd_at.symm]
  generalize gAd ad 6 0 qC = adC at *
  refine J_dup (pc1 := 9) dX6_init_8 rfl rfl ?_
  have z6 : ∀ f i, f ≠ 10 → qlM0 f i = fun _ => 0 := fun f i h => funext fun _ => if_neg h
  refine J_initC (New := cluT2 0) (pc1 := 12) (ce := 213) (sl := 1935) iC cC (List.mem_append_right _ List.mem_cons_self) (fun f i9 h => by
    have h5 := cluT2_in h
    simp
    omega) (clE_X0 (by decide) (z6 _ _ (by decide)) (z6 _ _ (by decide)) (z6 _ _ (by decide)) (z6 _ _ (by decide)) rfl (fun f i h1 h2 h3 => z6 f i (by omega)) (fun f i h1 h2 h3 => z6 f i (by omega))) (J_hI (st := .ref (adC 6 0) :: [.ref (ad 0 0)]) (As := []) (kX0_init l D tc sa (q := 0) (by decide) (z6 _ _ (by decide)) (z6 _ _ (by decide)) (z6 _ _ (by decide)) (z6 _ _ (by decide)) rfl (fun f i h1 h2 h3 => z6 f i (by omega)) (fun f i h1 h2 h3 => z6 f i (by omega))) wiX6_11 rfl ⟨Nat.le_of_ble_eq_true rfl, Nat.le_of_ble_eq_true rfl⟩ ⟨Nat.le_of_ble_eq_true rfl, Nat.le_of_ble_eq_true rfl⟩ (Nat.le_of_ble_eq_true rfl) dX6_init_9) rfl rfl rfl (fun adD iD eD cD => ?_)
  rw [muN_id (fun f i9 h => cluM2_no h)] at cD ⊢
  have g0 : adD 0 0 = ad 0 0 := (eD 0 0 (List.mem_append_left _ List.mem_cons_self)).trans eC
  rw [show (Value.ref (adC 6 0)) = .ref (adD 6 0) from congrArg Value.ref (eD _ _ (List.mem_append_right _ List.mem_cons_self)).symm, show (Value.ref (ad 0 0)) = .ref (adD 0 0) from congrArg Value.ref g0.symm]
  refine J_putRF (T := TX6) (f' := 6) (i' := 0) (v := 1) (pc1 := 15) (List.mem_append_left _ (List.mem_append_left _ List.mem_cons_self)) rfl rfl inX6 tyX6 tyX6_ok nmX6 0 (by decide) rfl (fun row k _ => rhK_put (by decide) (fun r r' k h => gh0) (fun r _ => rfl) row k) flX6_12 rfl rfl hnm0 rfl rfl rfl dX6_init_12 rfl ?_
  have d0 := clE_put (f := 0) (i := 0) (k0 := 0) (v := 1) (z := (6, 0)) cD (List.mem_append_left _ (List.mem_append_right _ List.mem_cons_self)) (fun j => rhK_put (by decide) (fun r r' k h => gh0) (fun r _ => rfl) _ j)
  refine J_aload_n (i := 0) (q := 0) (pc1 := 16) dX6_init_15 rfl rfl rfl ?_
  have n1 : (1, 0) ∉ ([(0, 0)] ++ [(6, 0)]) ++ cluT2 0 := fun z => by
    rcases List.mem_append.mp z with z | z
    · simp at z
    · have := cluT2_in z; omega
  have zS : ∀ f, 1 ≤ f → f ≤ 5 → w3 (cluM2 qlM0 0) 0 0 0 1 f 0 = fun _ => 0 := fun f h1 h2 => by
    rw [w3_ne (by omega), cluM2_no (fun z => by
      rcases z with z | z
      · omega
      · have := cluT2_in z; omega), z6 f 0 (by omega)]
  refine J_newOk (N := 6) (ci := 9) (f0 := 1) (i0 := 0) (Cn := RX5) (T := TX5) (pc1 := 19) n1 rfl rfl inX5 tyX5 tyX5_ok X5_def (clE_hrh d0 n1) (fun k => rhK_no rfl) (zS 1 (by decide) (by decide)) clX6_16 instX5 iniX5 (Nat.le_of_ble_eq_true rfl) (Nat.le_of_ble_eq_true rfl) dX6_init_16 rfl (fun qS hqS => ?_)
  have cS := clE_new (f0 := 1) (i0 := 0) d0 (fun k _ => rhK_no (congrFun ((zS 1 (by decide) (by decide))) k))
  have iS := gI_snoc (f0 := 1) (i0 := 0) iD n1 hqS
  have eS : gAd adD 1 0 qS 0 0 = adD 0 0 := gAd_ne (by simp)
  rw [show (Value.ref qS) = .ref (gAd adD 1 0 qS 1 0) from congrArg Value.ref gAd_at.symm]
  generalize gAd adD 1 0 qS = adS at *
  refine J_dup (pc1 := 20) dX6_init_19 rfl rfl ?_
  refine J_initC (New := [(2, 0), (3, 0), (4, 0), (5, 0)]) (pc1 := 23) (ce := 218) (sl := 2069) iS cS (List.mem_append_right _ List.mem_cons_self) (fun f i9 h => by
    have h5 : 2 ≤ f ∧ f ≤ 5 ∧ i9 = 0 := by
      simp only [List.mem_cons, Prod.mk.injEq, List.not_mem_nil, or_false] at h
      omega
    intro z
    rcases List.mem_append.mp z with z | z
    · rcases List.mem_append.mp z with z | z
      · simp at z
        omega
      · have := cluT2_in z; omega
    · simp at z
      omega) clE_X5 (J_hI (st := .ref (adS 1 0) :: [.ref (adD 0 0)]) (As := []) (kX5_init l D tc sa (zS 1 (by decide) (by decide)) (fun f i9 h => by
    have h5 : 2 ≤ f ∧ f ≤ 5 ∧ i9 = 0 := by
      simp only [List.mem_cons, Prod.mk.injEq, List.not_mem_nil, or_false] at h
      omega
    rw [h5.2.2]
    exact zS f (by omega) h5.2.1)) wiX6_18 rfl ⟨Nat.le_of_ble_eq_true rfl, Nat.le_of_ble_eq_true rfl⟩ ⟨Nat.le_of_ble_eq_true rfl, Nat.le_of_ble_eq_true rfl⟩ (Nat.le_of_ble_eq_true rfl) dX6_init_20) rfl rfl rfl (fun adT iT eT cT => ?_)
  rw [muN_id (fun f i9 h => by
    have h1 : ¬ (f = 1 ∧ i9 = 0) := fun z => h (Or.inl z)
    rw [w3_ne h1, w3_ne h1, w3_ne h1, w3_ne h1])] at cT ⊢
  have g1 : adT 0 0 = adD 0 0 := (eT 0 0 (List.mem_append_left _ (List.mem_append_left _ (List.mem_append_left _ List.mem_cons_self)))).trans eS
  rw [show (Value.ref (adS 1 0)) = .ref (adT 1 0) from congrArg Value.ref (eT _ _ (List.mem_append_right _ List.mem_cons_self)).symm, show (Value.ref (adD 0 0)) = .ref (adT 0 0) from congrArg Value.ref g1.symm]
  refine J_putRF (T := TX6) (f' := 1) (i' := 0) (v := 1) (pc1 := 26) (List.mem_append_left _ (List.mem_append_left _ (List.mem_append_left _ (List.mem_append_left _ List.mem_cons_self)))) rfl rfl inX6 tyX6 tyX6_ok nmX6 2 (by decide) rfl (fun row k _ => rhK_put (by decide) (fun r r' k h => gh0) (fun r _ => rfl) row k) flX6_19 rfl rfl hnm0 rfl rfl rfl dX6_init_23 rfl ?_
  have d2 := clE_put (f := 0) (i := 0) (k0 := 2) (v := 1) (z := (1, 0)) cT (List.mem_append_left _ (List.mem_append_right _ List.mem_cons_self)) (fun j => rhK_put (by decide) (fun r r' k h => gh0) (fun r _ => rfl) _ j)
  refine J_aload_n (i := 0) (q := 0) (pc1 := 27) dX6_init_26 rfl rfl rfl ?_
  have d2 : clE gkd_C (rhK 1) qlE qlM1 := d2
  have iT : gI qlE adT := iT
  show J p l e ({ frames := 12, cells := 220, slots := 2089, locals := 900 } : Room) s m args below meth c cX6_init 1 RX6 D qlE gkd_C tc adT (rhK 1) sa (gA [(0, 0)] ad sz) s.heap 218 2069 (MQ below (gQG D tc [(0, 0)] ad sz (qlPo ad)) args s 220 2089 (gA [(0, 0)] ad sz)) qlM1 27 [(0, .ref (adT 0 0))] [.ref (adT 0 0)]
  have hE0 : gI (mxE [] qlE) (mxA adT adT) := gI_mx (fun _ _ h => absurd h List.not_mem_nil) (fun i j p q hi _ _ => by cases i <;> cases hi) iT (fun _ _ _ _ h _ => absurd h List.not_mem_nil)
  refine J_conv2 (E1 := mxE [] qlE) (kd1 := mxK (sKd 16 0) gkd_C) (ad1 := mxA adT adT) (rh1 := mxR (fun _ _ _ _ => none) (rhK 1)) (μ1 := mxM (fun _ _ _ => 0) qlM1) hE0 (fun f i h => by
    rcases mxE_in.mp h with h2 | ⟨f0, h2, rfl⟩
    · exact absurd h2 List.not_mem_nil
    · exact ⟨f0, i, h2, mxA_b, mx_gb⟩) ?_
  refine J_newO (N := 4) (ci := 1) (f0 := 0) (i0 := 0) (refs := [0]) (Cn := RJ4) (T := TJ4) (pc1 := 30) (fun h => by
    rcases mxE_in.mp h with h2 | ⟨f0, h2, h3⟩
    · exact absurd h2 List.not_mem_nil
    · omega) rfl rfl inJ4 tyJ4 tyJ4_ok (fun k hk => by match k, hk with | 0, _ => rfl | 1, _ => rfl | 2, _ => rfl | 3, _ => rfl) (fun f i row k h => mxR_ne (by decide) h) (fun row k => rfl) (by funext k; rfl) clX6_23 instJ4 iniJ4 (Nat.le_of_ble_eq_true rfl) (Nat.le_of_ble_eq_true rfl) dX6_init_27 rfl (fun b hb => ?_)
  rw [mxA_gAd (by decide)]
  have hI1 : gI (mxE [(0, 0)] qlE) (mxA (gAd adT 0 0 b) (gAd adT 23 0 b)) := gI_mx mxL_one.1 (fun i j p q hi hj _ => by
    match i, j, hi, hj with
    | 0, 0, _, _ => rfl) (gI_cg iT (fun f i h => gAd_ne (fun z => by have := qlE_in h; omega))) (fun f i f' i' h h2 z => by
    have hfi : f = 0 ∧ i = 0 := by simpa using h
    rw [hfi.1, hfi.2, gAd_at, gAd_ne (fun z => by have := qlE_in h2; omega)] at z
    exact hb (f' + 30) i' (mxE_b h2) (by rw [mxA_b]; exact z.symm))
  refine J_conv2 (E1 := mxE [(0, 0)] qlE) (kd1 := mxK (sKd 16 0) gkd_C) (ad1 := mxA (gAd adT 0 0 b) (gAd adT 23 0 b)) (rh1 := mxR (fun _ _ _ _ => none) (rhK 1)) (μ1 := mxM (fun _ _ _ => 0) qlM1) hI1 (fun f i h => ⟨f, i, by
    rcases mxE_in.mp h with h2 | ⟨f0, h2, rfl⟩
    · exact List.mem_append_right _ h2
    · exact List.mem_append_left _ (mxE_b h2), by
    rcases mxE_in.mp h with h2 | ⟨f0, h2, rfl⟩
    · obtain ⟨rfl, rfl⟩ := Prod.mk.inj (List.mem_singleton.mp h2)
      rfl
    · rw [mxA_b, mxA_b, gAd_ne (fun z => by have := qlE_in h2; omega)], by
    rcases mxE_in.mp h with h2 | ⟨f0, h2, rfl⟩
    · obtain ⟨rfl, rfl⟩ := Prod.mk.inj (List.mem_singleton.mp h2)
      rfl
    · rw [mx_gb, mx_gb]
      exact g_e_ad2 (fun k hk e => by have := qlE_in (d2 f0 i k _ h2 hk e); omega)⟩) ?_
  rw [show (Value.ref b) = .ref (gAd adT 0 0 b 0 0) from congrArg Value.ref gAd_at.symm]
  refine J_dup (pc1 := 31) dX6_init_30 rfl rfl ?_
  refine J_mixA (pc1 := 34) (ce := 220) (sl := 2089) hI1 mxL_one (J_hI (st := [.ref (gAd adT 0 0 b 0 0), .ref (adT 0 0)]) (As := []) (kJ4_init l D tc sa (gI_mxa mxL_one.1 hI1) (fun _ => 0)) wiX6_25 rfl ⟨Nat.le_of_ble_eq_true rfl, Nat.le_of_ble_eq_true rfl⟩ ⟨Nat.le_of_ble_eq_true rfl, Nat.le_of_ble_eq_true rfl⟩ (Nat.le_of_ble_eq_true rfl) dX6_init_31) rfl rfl rfl (fun o E1 kd1 ad1 rh1 μ1 hp => by obtain ⟨-, rfl, -, -, rfl, -⟩ := hp; exact mxL_sE) (fun o1 E1 kd1 ad1 rh1 μ1 hp hI2 => ?_)
  obtain ⟨rfl, rfl, h00, ⟨N1, rfl⟩, rfl, ml1, arr1, rfl, hL1, hf1⟩ := hp
  have hb0 : ad1 0 0 = b := h00.trans gAd_at
  generalize hadb : gAd adT 23 0 b = adb at *
  have hb2 : adb 23 0 = b := by rw [← hadb]; exact gAd_at
  have ha0 : adb 0 0 = adT 0 0 := by rw [← hadb]; exact gAd_ne (by simp)
  rw [show (Value.ref (gAd adT 0 0 b 0 0)) = .ref (mxA ad1 adb 53 0) from congrArg Value.ref (gAd_at.trans hb2.symm), show (Value.ref (adT 0 0)) = .ref (mxA ad1 adb 30 0) from congrArg Value.ref ha0.symm]
  show J p l e ({ frames := 12, cells := 220, slots := 2089, locals := 900 } : Room) s m args below meth c cX6_init 1 RX6 D (mxE sE qlE) (mxK (sKd 16 N1) gkd_C) tc (mxA ad1 adb) (mxR sRh (rhK 1)) sa (gA [(0, 0)] ad sz) s.heap 220 2089 (MQ below (gQG D tc [(0, 0)] ad sz (qlPo ad)) args s 220 2089 (gA [(0, 0)] ad sz)) (mxM (sM 0 ml1 arr1) qlM1) 34 [(0, .ref (mxA ad1 adb 30 0))] [.ref (mxA ad1 adb 53 0), .ref (mxA ad1 adb 30 0)]
  refine J_putRF (T := TX6) (f := 30) (i := 0) (f' := 53) (i' := 0) (v := 1) (pc1 := 37) (mxE_b qlE0) rfl rfl inX6 tyX6 tyX6_ok nmX6 3 (by decide) rfl (fun row k _ => qlPut row k) flX6_26 rfl rfl hnm0 rfl rfl rfl dX6_init_34 rfl ?_
  rw [mxM_w3b]
  show J p l e ({ frames := 12, cells := 220, slots := 2089, locals := 900 } : Room) s m args below meth c cX6_init 1 RX6 D (mxE sE qlE) (mxK (sKd 16 N1) gkd_C) tc (mxA ad1 adb) (mxR sRh (rhK 1)) sa (gA [(0, 0)] ad sz) s.heap 220 2089 (MQ below (gQG D tc [(0, 0)] ad sz (qlPo ad)) args s 220 2089 (gA [(0, 0)] ad sz)) (mxM (sM 0 ml1 arr1) (w3 qlM1 0 0 3 1)) 37 [(0, .ref (mxA ad1 adb 30 0))] []
  have hI3 : gI (mxE sE (gE_C 1)) (mxA ad1 adb) := gI_mx mxL_sE.1 (gI_mxa mxL_sE.1 hI2) (gI_nd (gE_C_nd 1) (fun x h => qlE_of h) (gI_mxb hI2)) (fun f i f' i' h1 h2 => mx_sep mxL_sE.1 hI2 f i f' i' h1 (qlE_of h2))
  refine J_conv3 (E1 := mxE sE (gE_C 1)) (ad1 := mxA ad1 adb) (rh1 := mxR sRh (grh_C 1)) hI3 (fun f i h => by
    rcases mxE_in.mp h with h2 | ⟨f0, h2, rfl⟩
    · refine ⟨mxE_a h2, rfl, fun k hk => ?_⟩
      have hf : f < 30 := mxL_sE.1 f i h2
      have e : ∀ rb : gRh, mxR sRh rb (mxM (sM 0 ml1 arr1) (w3 qlM1 0 0 3 1) f i) f i k = sRh (mxM (sM 0 ml1 arr1) (w3 qlM1 0 0 3 1) f i) f i k := fun rb => if_pos hf
      rw [e, e]
    · exact ⟨mxE_b (qlE_of h2), rfl, fun k hk => by rw [mxR_b, mxR_b, qlR h2 (gRn_mx hk)]⟩) ?_
  refine J_aload_n (i := 0) (q := 0) (pc1 := 38) dX6_init_37 rfl rfl rfl ?_
  refine J_getR (T := TX6) (f := 30) (i := 0) (f' := 36) (i' := 0) (pc1 := 41) (mxE_b (eC0 (nc := 1))) rfl rfl inX6 0 (by decide) rfl rfl flX6_12 rfl dX6_init_38 rfl ?_
  show J p l e ({ frames := 12, cells := 220, slots := 2089, locals := 900 } : Room) s m args below meth c cX6_init 1 RX6 D (mxE sE (gE_C 1)) (mxK (sKd 16 N1) gkd_C) tc (mxA ad1 adb) (mxR sRh (grh_C 1)) sa (gA [(0, 0)] ad sz) s.heap 220 2089 (MQ below (gQG D tc [(0, 0)] ad sz (qlPo ad)) args s 220 2089 (gA [(0, 0)] ad sz)) (mxM (sM 0 ml1 arr1) (w3 qlM1 0 0 3 1)) 41 [(0, .ref (mxA ad1 adb 30 0))] [.ref (adb 6 0)]
  refine J_bipush (v := 7) (pc1 := 43) dX6_init_41 (by decide) rfl ?_
  refine J_iconst (v := 0) (pc1 := 44) dX6_init_43 (by decide) rfl ?_
  obtain ⟨μ9, hm9, F9, R9⟩ := mX0_begin_ok (nc := 1) (a1 := 7) (a2 := 0) (q := 0) qlW (by decide : (7 : Int32).toInt = ((7 : Nat) : Int))
  have hIb : gI (gE_C 1) adb := gI_mxb hI3
  refine J_mixB (o := none) (μ1 := μ9) (pc1 := 47) (st1 := []) hI3 mxL_sE (J_hV (st := []) (As := [.int 7, .int 0]) (gMet.G hIb ⟨rfl, rfl⟩ (kX0_begin l D tc sa adb 1 (by decide) hIb 0 (by decide) 7 0 _ μ9 hm9)) wcX0_begin rfl wlX6_30 mxA_b.symm (mxE_b (eC6 (nc := 1) (by decide))) rfl rfl rfl ⟨Nat.le_of_ble_eq_true rfl, Nat.le_of_ble_eq_true rfl⟩ ⟨Nat.le_of_ble_eq_true rfl, Nat.le_of_ble_eq_true rfl⟩ (Nat.le_of_ble_eq_true rfl) dX6_init_44) rfl rfl rfl rfl ?_
  have hbu : μ9 1 0 4 = 0 := by rw [F9 1 0 4 (fun z => by have := rbP_6 z; omega)]; exact ql14
  exact J_vretG hr hlk ⟨rfl, ad1, adb, N1, ml1, arr1, μ9, rfl, rfl, rfl, rfl, rfl, ha0.trans (g1.trans g0), hb0.trans hb2.symm, hf1, R9, hbu⟩ hI3 (Nat.le_of_ble_eq_true rfl) (Nat.le_of_ble_eq_true rfl) dX6_init_47
end SE5
