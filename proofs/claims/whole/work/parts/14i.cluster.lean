/-! Cluster() -/
theorem wlX0_3o : Cond.methodLink RX0 3 Lib.objectInit ∈ BIG := bigT1 (i := 45) rfl rfl
theorem clX0_9 : Cond.classLink RX0 9 RX4 ∈ BIG := bigT1 (i := 46) rfl rfl
theorem clX0_20 : Cond.classLink RX0 20 RX3 ∈ BIG := bigT1 (i := 163) rfl rfl
theorem instX4 : Cond.instantiable RX4 12 ∈ BIG := bigT1 (i := 48) rfl rfl
theorem instX3 : Cond.instantiable RX3 8 ∈ BIG := bigT1 (i := 164) rfl rfl
theorem wlX0_17 : Cond.methodLink RX0 17 yX4_init ∈ BIG := bigT1 (i := 49) rfl rfl
theorem imX4_init : Cond.instanceMethod yX4_init ∈ BIG := bigT1 (i := 50) rfl rfl
theorem cdX4_init : Cond.code yX4_init cX4_init 2 (none) ∈ BIG := bigT1 (i := 51) rfl rfl
theorem wiX0_17 : wCi RX0 17 yX4_init cX4_init 2 1 := ⟨⟨wlX0_17, imX4_init, iniX4, cdX4_init⟩, rfl, by decide +kernel⟩
theorem wlX0_22 : Cond.methodLink RX0 22 yX3_init ∈ BIG := bigT1 (i := 165) rfl rfl
theorem imX3_init : Cond.instanceMethod yX3_init ∈ BIG := bigT1 (i := 166) rfl rfl
theorem cdX3_init : Cond.code yX3_init cX3_init 2 (none) ∈ BIG := bigT1 (i := 167) rfl rfl
theorem wiX0_22 : wCi RX0 22 yX3_init cX3_init 2 0 := ⟨⟨wlX0_22, imX3_init, iniX3, cdX3_init⟩, rfl, by decide +kernel⟩
section SE4
variable (l : Launch) (D : va_G) (tc : Nat → ClassId) (sa : Nat → Nat)
theorem gn7e {nc i k : Nat} {r : Nat → Int32} : grh_C nc r 7 i k = some (11, 5 * i + k) := rfl
theorem gn7 {nc i k : Nat} {r r' : Nat → Int32} : grh_C nc r 7 i k = grh_C nc r' 7 i k := gn7e.trans gn7e.symm
theorem X4_def : ∀ k, k < 12 → defaultValue (tyX4 k) = if ([1, 2, 3, 4] : List Nat).contains k then .null else .int 0 := fun k hk => by
  match k, hk with
  | 0, _ => rfl
  | 1, _ => rfl
  | 2, _ => rfl
  | 3, _ => rfl
  | 4, _ => rfl
  | 5, _ => rfl
  | 6, _ => rfl
  | 7, _ => rfl
  | 8, _ => rfl
  | 9, _ => rfl
  | 10, _ => rfl
  | 11, _ => rfl
  | k + 12, hk => exact absurd hk (by omega)
theorem X3_def : ∀ k, k < 8 → defaultValue (tyX3 k) = if ([0, 1, 2] : List Nat).contains k then .null else .int 0 := fun k hk => by
  match k, hk with
  | 0, _ => rfl
  | 1, _ => rfl
  | 2, _ => rfl
  | 3, _ => rfl
  | 4, _ => rfl
  | 5, _ => rfl
  | 6, _ => rfl
  | 7, _ => rfl
  | k + 8, hk => exact absurd hk (by omega)
theorem netT2_in {q f i : Nat} (h : (f, i) ∈ netT2 q) : (f = 10 ∧ i = q) ∨ (19 ≤ f ∧ i < 42 * q + 42) := by
  rcases List.mem_append.mp h with h | h
  · rcases List.mem_append.mp h with h | h
    · rcases netT_in (k := 41) h with h | h
      · exact Or.inl h
      · exact Or.inr ⟨h.1, by omega⟩
    · obtain ⟨rfl, rfl⟩ := Prod.mk.inj (List.mem_singleton.mp h)
      exact Or.inr ⟨by omega, by omega⟩
  · simp only [List.mem_cons, Prod.mk.injEq, List.not_mem_nil, or_false] at h
    exact Or.inr ⟨by omega, by omega⟩
theorem netT_19 {q t k : Nat} (h : 42 * q ≤ t ∧ t < 42 * q + k) : (19, t) ∈ netT q k := by
  induction k with
  | zero => omega
  | succ k ih =>
    by_cases e : t = 42 * q + k
    · rw [e]
      exact List.mem_append_left _ (List.mem_append_right _ List.mem_cons_self)
    · exact List.mem_append_left _ (List.mem_append_left _ (ih (by omega)))
theorem netM2_no {μ : gM} {q f i : Nat} (h : ¬ ((f = 9 ∧ i = q) ∨ (f, i) ∈ netT2 q)) : netM2 μ q f i = μ f i := by
  have h9 : ¬ (f = 9 ∧ i = q) := fun z => h (Or.inl z)
  have h10 : ¬ (f = 10 ∧ i = q) := fun z => h (Or.inr (by
    rw [z.1, z.2]
    rcases List.mem_cons.mp (netE_10 (q := q) (k := 40)) with g | g
    · have := (Prod.mk.inj g).1; omega
    · exact List.mem_append_left _ (List.mem_append_left _ (List.mem_append_left _ (List.mem_append_left _ g)))))
  have h41 : ¬ (f = 19 ∧ i = 42 * q + 41) := fun z => h (Or.inr (by
    rw [z.1, z.2]
    exact List.mem_append_left _ (List.mem_append_right _ List.mem_cons_self)))
  have h40 : ¬ (f = 19 ∧ i = 42 * q + 40) := fun z => h (Or.inr (by
    rw [z.1, z.2]
    exact List.mem_append_left _ (List.mem_append_left _ (List.mem_append_left _ (List.mem_append_right _ List.mem_cons_self)))))
  have hT : ∀ t, 42 * q ≤ t → t < 42 * q + 40 → ¬ (f = 19 ∧ i = t) := fun t h1 h2 z => h (Or.inr (by
    rw [z.1, z.2]
    exact List.mem_append_left _ (List.mem_append_left _ (List.mem_append_left _ (List.mem_append_left _ (netT_19 ⟨h1, h2⟩))))))
  have hk : ∀ k, k ≤ 40 → netM μ q k f i = μ f i := fun k => by
    induction k with
    | zero => exact fun _ => w3_ne h9
    | succ k ih =>
      intro hk
      show w3 (msgM (netM μ q k) (42 * q + k)) 10 q k _ f i = _
      rw [w3_ne h10, msgM_ne (hT _ (by omega) (by omega)), ih (by omega)]
  unfold netM2 netM1
  rw [w3_ne h9, msgM_ne h41, w3_ne h9, msgM_ne h40, hk 40 (Nat.le_refl _)]
theorem kX0_init {nc q : Nat} (hq2 : q < 2) {ad : Nat → Nat → Nat} {μ : gM} (hz6 : μ 6 q = fun _ => 0) (hz7 : μ 7 q = fun _ => 0) (hz8 : μ 8 q = fun _ => 0) (hz9 : μ 9 q = fun _ => 0) (hz10 : μ 10 q = fun _ => -1) (hz : ∀ f i, 11 ≤ f → f ≤ 18 → 5 * q ≤ i → μ f i = fun _ => 0) (hzm : ∀ f i, 19 ≤ f → f ≤ 22 → 42 * q ≤ i → μ f i = fun _ => 0) : gMetG l yX0_init cX0_init 2 none ({ frames := 8, cells := 212, slots := 1926, locals := 400 } : Room) D [(6, q)] gkd_C tc ad (rhK nc) sa [.ref (ad 6 q)] μ (iPo gkd_C ad (rhK nc) 6 q (cluT2 q) (cluM2 μ q)) := by
  refine gMetGi_of gI_one ⟨by decide +kernel, Nat.le_of_ble_eq_true rfl⟩ (fun p e s m args below meth c sz hr hlk hnm0 => ?_)
  show J p l e ({ frames := 8, cells := 212, slots := 1926, locals := 400 } : Room) s m args below meth c cX0_init 2 RX0 D [(6, q)] gkd_C tc ad (rhK nc) sa (gA [(6, q)] ad sz) s.heap 0 0 (MQ below (gQG D tc [(6, q)] ad sz (iPo gkd_C ad (rhK nc) 6 q (cluT2 q) (cluM2 μ q))) args s 212 1926 (gA [(6, q)] ad sz)) μ 0 [(0, .ref (ad 6 q))] []
  have hK : ∀ adk : Nat → Nat → Nat, gI (cluE q 5) adk → clE gkd_C (rhK nc) (cluE q 5) (cluM μ q 5) → adk 6 q = ad 6 q → J p l e ({ frames := 8, cells := 212, slots := 1926, locals := 400 } : Room) s m args below meth c cX0_init 2 RX0 D (cluE q 5) gkd_C tc adk (rhK nc) sa (gA [(6, q)] ad sz) s.heap 41 560 (MQ below (gQG D tc [(6, q)] ad sz (iPo gkd_C ad (rhK nc) 6 q (cluT2 q) (cluM2 μ q))) args s 212 1926 (gA [(6, q)] ad sz)) (cluM μ q 5) 39 [(0, .ref (adk 6 q))] [] := by
    intro adk hI hcl h6
    refine J_aload_n (i := 0) (q := 0) (pc1 := 40) dX0_init_39 rfl rfl rfl ?_
    have zN : ∀ f i, (f = 9 ∨ f = 10 ∨ 19 ≤ f) → cluM μ q 5 f i = μ f i := fun f i h => cluM_o (by omega) (by omega) 5 (fun z => by omega)
    have z9 : cluM μ q 5 9 q = fun _ => 0 := (zN 9 q (by omega)).trans hz9
    have z10 : cluM μ q 5 10 q = fun _ => -1 := (zN 10 q (by omega)).trans hz10
    have zm : ∀ f i, 19 ≤ f → f ≤ 22 → 42 * q ≤ i → cluM μ q 5 f i = fun _ => 0 := fun f i h1 h2 h3 => (zN f i (by omega)).trans (hzm f i h1 h2 h3)
    have n9 : (9, q) ∉ cluE q 5 := fun h => by
      rcases List.mem_cons.mp h with h | h
      · have := (Prod.mk.inj h).1; omega
      · rcases cluT_in 5 h with h | h <;> omega
    refine J_newOk (N := 8) (ci := 7) (f0 := 9) (i0 := q) (Cn := RX3) (T := TX3) (pc1 := 43) n9 rfl rfl inX3 tyX3 tyX3_ok X3_def (clE_hrh hcl n9) (fun k => rhK_no rfl) z9 clX0_20 instX3 iniX3 (Nat.le_of_ble_eq_true rfl) (Nat.le_of_ble_eq_true rfl) dX0_init_40 rfl (fun qN hqN => ?_)
    have cNa := clE_new (f0 := 9) (i0 := q) hcl (fun k _ => rhK_no (by rw [z9]; rfl))
    have iNa := gI_snoc (f0 := 9) (i0 := q) hI n9 hqN
    have eNa : gAd adk 9 q qN 6 q = adk 6 q := gAd_ne (by simp)
    rw [show (Value.ref qN) = .ref (gAd adk 9 q qN 9 q) from congrArg Value.ref gAd_at.symm]
    generalize gAd adk 9 q qN = adNA at *
    refine J_dup (pc1 := 44) dX0_init_43 rfl rfl ?_
    refine J_initC (New := netT2 q) (pc1 := 47) (ce := 211) (sl := 1826) iNa cNa (List.mem_append_right _ List.mem_cons_self) (fun f i9 h => by
      have h5 := netT2_in h
      intro z
      rcases List.mem_append.mp z with z | z
      · rcases List.mem_cons.mp z with z | z
        · have := (Prod.mk.inj z).1; omega
        · rcases cluT_in 5 z with z | z <;> omega
      · have := (Prod.mk.inj (List.mem_singleton.mp z)).1; omega) (clE_X3 hq2 z9 z10 zm) (J_hI (st := .ref (adNA 9 q) :: [.ref (adk 6 q)]) (As := []) (kX3_init l D tc sa hq2 z9 z10 zm) wiX0_22 rfl ⟨Nat.le_of_ble_eq_true rfl, Nat.le_of_ble_eq_true rfl⟩ ⟨Nat.le_of_ble_eq_true rfl, Nat.le_of_ble_eq_true rfl⟩ (Nat.le_of_ble_eq_true rfl) dX0_init_44) rfl rfl rfl (fun adNB iNB eNB cNB => ?_)
    rw [muN_id (fun f i9 h => netM2_no h)] at cNB ⊢
    have g6 : adNB 6 q = adk 6 q := (eNB 6 q (List.mem_append_left _ List.mem_cons_self)).trans eNa
    rw [show (Value.ref (adNA 9 q)) = .ref (adNB 9 q) from congrArg Value.ref (eNB _ _ (List.mem_append_right _ List.mem_cons_self)).symm, show (Value.ref (adk 6 q)) = .ref (adNB 6 q) from congrArg Value.ref g6.symm]
    refine J_putRF (T := TX0) (f' := 9) (i' := q) (v := 1) (pc1 := 50) List.mem_cons_self rfl rfl inX0 tyX0 tyX0_ok nmX0 1 (by decide) rfl (fun row k _ => rhK_put (by decide) (fun r r' k h => gh6) (fun r _ => rfl) row k) flX0_23 rfl rfl hnm0 rfl rfl rfl dX0_init_47 rfl ?_
    have d1 := clE_put (f := 6) (i := q) (k0 := 1) (v := 1) (z := (9, q)) cNB (List.mem_append_left _ (List.mem_append_right _ List.mem_cons_self)) (fun j => rhK_put (by decide) (fun r r' k h => gh6) (fun r _ => rfl) _ j)
    have n8 : (8, q) ∉ (6, q) :: cluT1 q := fun h => by
      rcases List.mem_cons.mp h with h | h
      · have := (Prod.mk.inj h).1; omega
      · rcases List.mem_append.mp h with h | h
        · rcases List.mem_append.mp h with h | h
          · rcases cluT_in 5 h with h | h <;> omega
          · have := (Prod.mk.inj (List.mem_singleton.mp h)).1; omega
        · have := netT2_in h; omega
    have z8 : cluM1 μ q 8 q = fun _ => 0 := by
      unfold cluM1
      rw [w3_ne (by omega), netM2_no (fun z => z.elim (fun z => by omega) (fun z => by have := netT2_in z; omega)), cluM_o (by omega) (by omega) 5 (fun z => by omega), hz8]
    refine J_aload_n (i := 0) (q := 0) (pc1 := 51) dX0_init_50 rfl rfl rfl ?_
    refine J_bipush (v := 100) (pc1 := 53) dX0_init_51 (by decide) rfl ?_
    refine J_newIk (E := (6, q) :: cluT1 q) (μ := cluM1 μ q) (N := 100) (f0 := 8) (i0 := q) (pc1 := 55) n8 rfl (clE_hrh (show clE gkd_C (rhK nc) ((6, q) :: cluT1 q) (cluM1 μ q) from d1) n8) arI (by decide) (by decide) (by decide) (Nat.le_of_ble_eq_true rfl) (Nat.le_of_ble_eq_true rfl) z8 dX0_init_53 rfl (fun qW hqW => ?_)
    have iW : gI (((6, q) :: cluT1 q) ++ [(8, q)]) (gAd adNB 8 q qW) := gI_snoc (show gI ((6, q) :: cluT1 q) adNB from iNB) n8 hqW
    have eW : gAd adNB 8 q qW 6 q = adNB 6 q := gAd_ne (by simp)
    rw [show (Value.ref qW) = .ref (gAd adNB 8 q qW 8 q) from congrArg Value.ref gAd_at.symm, show (Value.ref (adNB 6 q)) = .ref (gAd adNB 8 q qW 6 q) from congrArg Value.ref eW.symm]
    generalize gAd adNB 8 q qW = adW at *
    refine J_putRF (T := TX0) (f' := 8) (i' := q) (v := 1) (pc1 := 58) List.mem_cons_self rfl rfl inX0 tyX0 tyX0_ok nmX0 2 (by decide) rfl (fun row k _ => rhK_put (by decide) (fun r r' k h => gh6) (fun r _ => rfl) row k) flX0_27 rfl rfl hnm0 rfl rfl rfl dX0_init_55 rfl ?_
    exact J_vretG hr hlk ⟨rfl, rfl, rfl, eW.trans (g6.trans h6), rfl, rfl⟩ iW (Nat.le_of_ble_eq_true rfl) (Nat.le_of_ble_eq_true rfl) dX0_init_58
  have kl : ∀ (d k : Nat), k + d = 5 → ∀ adk : Nat → Nat → Nat, gI (cluE q k) adk → clE gkd_C (rhK nc) (cluE q k) (cluM μ q k) → adk 6 q = ad 6 q → J p l e ({ frames := 8, cells := 212, slots := 1926, locals := 400 } : Room) s m args below meth c cX0_init 2 RX0 D (cluE q k) gkd_C tc adk (rhK nc) sa (gA [(6, q)] ad sz) s.heap (1 + 8 * k) (5 + 111 * k) (MQ below (gQG D tc [(6, q)] ad sz (iPo gkd_C ad (rhK nc) 6 q (cluT2 q) (cluM2 μ q))) args s 212 1926 (gA [(6, q)] ad sz)) (cluM μ q k) 14 [(1, .int (nI k)), (0, .ref (adk 6 q))] [] := by
    intro d
    induction d with
    | zero =>
      intro k hk adk hI hcl h6
      refine J_iload_n (i := 1) (q := 0) (pc1 := 15) dX0_init_14 rfl rfl rfl ?_
      refine J_iconst (v := 5) (pc1 := 16) dX0_init_15 (by decide) rfl ?_
      refine J_eqI (y := nI 5) (rfl) ?_
      refine J_icmp_ge (tgt := 39) (pc1 := 19) dX0_init_16 (by decide) (fun qq => ?_) rfl (fun qq => absurd (nI_le (by omega) (by omega)) qq)
      obtain rfl : k = 5 := by omega
      exact J_sub [1] rfl (hK adk hI hcl h6)
    | succ d ih =>
      intro k hk adk hI hcl h6
      refine J_iload_n (i := 1) (q := 0) (pc1 := 15) dX0_init_14 rfl rfl rfl ?_
      refine J_iconst (v := 5) (pc1 := 16) dX0_init_15 (by decide) rfl ?_
      refine J_eqI (y := nI 5) (rfl) ?_
      refine J_icmp_ge (tgt := 39) (pc1 := 19) dX0_init_16 (by decide) (fun qq => absurd qq (nI_ge (by omega) (by omega))) rfl (fun qq => ?_)
      refine J_aload_n (i := 0) (q := 1) (pc1 := 20) dX0_init_19 rfl rfl rfl ?_
      refine J_getR (T := TX0) (f' := 7) (i' := q) (pc1 := 23) List.mem_cons_self rfl rfl inX0 0 (by decide) rfl (by rw [rhK_at (by rw [cluM_60]; decide)]; rfl) flX0_11 rfl dX0_init_20 rfl ?_
      refine J_iload_n (i := 1) (q := 0) (pc1 := 24) dX0_init_23 rfl rfl rfl ?_
      have zR : ∀ f, 11 ≤ f → f ≤ 18 → cluM μ q k f (5 * q + k) = fun _ => 0 := fun f h1 h2 => (cluM_o (by omega) (by omega) k (fun _ => Nat.le_refl _)).trans (hz f _ h1 h2 (by omega))
      refine J_newOk (N := 12) (ci := 8) (f0 := 11) (i0 := 5 * q + k) (Cn := RX4) (T := TX4) (pc1 := 27) (cluE_no (Nat.le_refl _) (by decide)) rfl rfl inX4 tyX4 tyX4_ok X4_def (clE_hrh hcl (cluE_no (Nat.le_refl _) (by decide))) (fun k => rhK_no rfl) (zR 11 (by omega) (by omega)) clX0_9 instX4 iniX4 (by show 1 + 8 * k + 1 ≤ 212; omega) (by show 5 + 111 * k + 12 ≤ 1926; omega) dX0_init_24 rfl (fun qM hqM => ?_)
      have cMa := clE_new (f0 := 11) (i0 := 5 * q + k) hcl (fun k _ => rhK_no (by rw [zR 11 (by omega) (by omega)]; rfl))
      have iMa := gI_snoc (f0 := 11) (i0 := 5 * q + k) hI (cluE_no (Nat.le_refl _) (by decide)) hqM
      have eMa : ∀ f i, (f, i) ∈ cluE q k → gAd adk 11 (5 * q + k) qM f i = adk f i := fun f i h => gAd_ne (fun z => (show (11, 5 * q + k) ∉ cluE q k from (cluE_no (Nat.le_refl _) (by decide))) (by rw [← z.1, ← z.2]; exact h))
      rw [show (Value.ref qM) = .ref (gAd adk 11 (5 * q + k) qM 11 (5 * q + k)) from congrArg Value.ref gAd_at.symm]
      generalize gAd adk 11 (5 * q + k) qM = adMA at *
      refine J_dup (pc1 := 28) dX0_init_27 rfl rfl ?_
      refine J_iload_n (i := 1) (q := 0) (pc1 := 29) dX0_init_28 rfl rfl rfl ?_
      refine J_initC (New := [(12, 5 * q + k), (16, 5 * q + k), (17, 5 * q + k), (18, 5 * q + k), (13, 5 * q + k), (14, 5 * q + k), (15, 5 * q + k)]) (pc1 := 32) (ce := 1 + 8 * (k + 1)) (sl := 5 + 111 * (k + 1)) iMa cMa (List.mem_append_right _ List.mem_cons_self) (fun f i9 h => by
        have h5 : 11 ≤ f ∧ f ≠ 11 ∧ i9 = 5 * q + k := by
          simp only [List.mem_cons, Prod.mk.injEq, List.not_mem_nil, or_false] at h
          omega
        intro z
        rcases List.mem_append.mp z with z | z
        · exact cluE_no (by omega) h5.1 z
        · exact h5.2.1 (Prod.mk.inj (List.mem_singleton.mp z)).1) clE_X4 (J_hI (st := .ref (adMA 11 (5 * q + k)) :: [.int (nI k), .ref (adk 7 q)]) (As := [.int (nI k)]) (kX4_init l D tc sa (i := 5 * q + k) (x := nI k) (zR 11 (by omega) (by omega)) (fun f i9 h => by
        have h5 : 11 ≤ f ∧ f ≤ 18 ∧ i9 = 5 * q + k := by
          simp only [List.mem_cons, Prod.mk.injEq, List.not_mem_nil, or_false] at h
          omega
        rw [h5.2.2]
        exact zR f h5.1 h5.2.1)) wiX0_17 rfl ⟨Nat.le_of_ble_eq_true rfl, Nat.le_of_ble_eq_true rfl⟩ ⟨by show 1 + 8 * k + 1 + 7 ≤ 212; omega, by show 5 + 111 * k + 12 + 99 ≤ 1926; omega⟩ (Nat.le_of_ble_eq_true rfl) dX0_init_29) rfl (by show 1 + 8 * k + 1 + 7 = _; omega) (by show 5 + 111 * k + 12 + 99 = _; omega) (fun adMB iMB eMB cMB => ?_)
      rw [muN_id (fun f i9 h => repM_ne (fun z => h (Or.inl z)) (fun z => h (Or.inr (by rw [z.1, z.2]; exact List.mem_cons_self))))] at cMB ⊢
      have g6 : adMB 6 q = adk 6 q := (eMB 6 q (List.mem_append_left _ List.mem_cons_self)).trans (eMa 6 q List.mem_cons_self)
      have g7 : adMB 7 q = adk 7 q := (eMB 7 q (List.mem_append_left _ cluE_7)).trans (eMa 7 q cluE_7)
      rw [show (Value.ref (adMA 11 (5 * q + k))) = .ref (adMB 11 (5 * q + k)) from congrArg Value.ref (eMB _ _ (List.mem_append_right _ List.mem_cons_self)).symm, show (Value.ref (adk 7 q)) = .ref (adMB 7 q) from congrArg Value.ref g7.symm, show (Value.ref (adk 6 q)) = .ref (adMB 6 q) from congrArg Value.ref g6.symm]
      refine J_aast (f' := 11) (i' := 5 * q + k) (v := 1) (pc1 := 33) (List.mem_append_left _ (List.mem_append_left _ cluE_7)) rfl rfl (List.mem_append_left _ (List.mem_append_right _ List.mem_cons_self)) rfl rfl (vp_in_nI (by omega) (by decide)) (fun row j => rhK_put (by decide) (fun r r' k h => gn7) (fun r _ => by rw [gn7e, nI_clamp (by omega)]) row j) dX0_init_32 rfl ?_
      have cN := clE_put (f := 7) (i := q) (k0 := (nI k).toNatClampNeg) (v := 1) (z := (11, 5 * q + k)) cMB (List.mem_append_left _ (List.mem_append_right _ List.mem_cons_self)) (fun j => rhK_put (by decide) (fun r r' k h => gn7) (fun r _ => by rw [gn7e, nI_clamp (by omega)]) _ j)
      rw [nI_clamp (by omega)] at cN ⊢
      refine J_iinc (q := 0) (v := nI (k + 1)) (lv1 := [(1, .int (nI (k + 1))), (0, .ref (adMB 6 q))]) (pc1 := 36) dX0_init_33 rfl (nI_1 k) (by decide) rfl rfl ?_
      refine J_goto (tgt := 14) dX0_init_36 (by decide) ?_
      exact ih (k + 1) (by omega) adMB iMB cN (g6.trans h6)
  refine J_aload_n (i := 0) (q := 0) (pc1 := 1) dX0_init_0 rfl rfl rfl ?_
  refine J_objInit (pc1 := 4) wlX0_3o imObj cdObj ⟨Nat.le_of_ble_eq_true rfl, Nat.le_of_ble_eq_true rfl⟩ dX0_init_1 rfl ?_
  refine J_aload_n (i := 0) (q := 0) (pc1 := 5) dX0_init_4 rfl rfl rfl ?_
  refine J_iconst (v := 5) (pc1 := 6) dX0_init_5 (by decide) rfl ?_
  have c0 : clE gkd_C (rhK nc) [(6, q)] μ := fun f i9 k z hm hr h9 => by
    obtain ⟨rfl, rfl⟩ := Prod.mk.inj (List.mem_singleton.mp hm)
    rw [rhK_no (by rw [hz6]; rfl)] at h9
    cases h9
  refine J_newQ2k (N := 5) (f0 := 7) (i0 := q) (pc1 := 9) (by simp) rfl (clE_hrh c0 (by simp)) (fun k => rhK_no (by rw [hz7]; rfl)) clX0_9 (by decide) (by decide) (by decide) (Nat.le_of_ble_eq_true rfl) (Nat.le_of_ble_eq_true rfl) dX0_init_6 rfl (fun qa hqa => ?_)
  have c1 : clE gkd_C (rhK nc) ([(6, q)] ++ [(7, q)]) μ := clE_new c0 (fun k _ => rhK_no (by rw [hz7]; rfl))
  have i1 : gI ([(6, q)] ++ [(7, q)]) (gAd ad 7 q qa) := gI_snoc gI_one (by simp) hqa
  have a1 : gAd ad 7 q qa 6 q = ad 6 q := gAd_ne (by simp)
  rw [show (Value.ref qa) = .ref (gAd ad 7 q qa 7 q) from congrArg Value.ref gAd_at.symm, show (Value.ref (ad 6 q)) = .ref (gAd ad 7 q qa 6 q) from congrArg Value.ref a1.symm]
  generalize gAd ad 7 q qa = adA at *
  refine J_putRF (T := TX0) (f' := 7) (i' := q) (v := 1) (pc1 := 12) List.mem_cons_self rfl rfl inX0 tyX0 tyX0_ok nmX0 0 (by decide) rfl (fun row k _ => rhK_put (by decide) (fun r r' k h => gh6) (fun r _ => rfl) row k) flX0_11 rfl rfl hnm0 rfl rfl rfl dX0_init_9 rfl ?_
  have c2 := clE_put (f := 6) (i := q) (k0 := 0) (v := 1) (z := (7, q)) c1 (List.mem_append_right _ List.mem_cons_self) (fun j => rhK_put (by decide) (fun r r' k h => gh6) (fun r _ => rfl) _ j)
  refine J_iconst (v := 0) (pc1 := 13) dX0_init_12 (by decide) rfl ?_
  refine J_eqI (y := nI 0) (rfl) ?_
  refine J_istore_n (i := 1) (lv1 := [(1, .int (nI 0)), (0, .ref (adA 6 q))]) (pc1 := 14) dX0_init_13 rfl (by decide) rfl rfl ?_
  exact kl 5 0 rfl adA i1 c2 a1
end SE4
