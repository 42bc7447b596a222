/-! Log(), Message(), Script() -/
theorem arI : Cond.arrayClass .int ∈ BIG := bigT1 (i := 102) rfl rfl
theorem arC : Cond.arrayClass .char ∈ BIG := bigT2 (i := 120) rfl rfl
theorem wlX1_3o : Cond.methodLink RX1 3 Lib.objectInit ∈ BIG := bigT1 (i := 58) rfl rfl
theorem wlX2_3o : Cond.methodLink RX2 3 Lib.objectInit ∈ BIG := bigT1 (i := 175) rfl rfl
theorem wlX5_3o : Cond.methodLink RX5 3 Lib.objectInit ∈ BIG := bigT2 (i := 96) rfl rfl
section SD1
variable (l : Launch) (D : va_G) (tc : Nat → ClassId) (sa : Nat → Nat)
theorem gI_one {f0 i0 : Nat} {ad : Nat → Nat → Nat} : gI [(f0, i0)] ad := fun i j p q hi hj _ => by
  have h1 := (List.getElem?_eq_some_iff.mp hi).1
  have h2 := (List.getElem?_eq_some_iff.mp hj).1
  simp only [List.length_cons, List.length_nil] at h1 h2
  omega
theorem kX1_init {nc i0 : Nat} {ad : Nat → Nat → Nat} {μ : gM} (hz : μ 12 i0 = fun _ => 0) (hzN : ∀ f i9, (f, i9) ∈ ([(16, i0), (17, i0), (18, i0)] : List (Nat × Nat)) → μ f i9 = fun _ => 0) : gMetG l yX1_init cX1_init 1 none ({ frames := 2, cells := 3, slots := 72, locals := 60 } : Room) D [(12, i0)] gkd_C tc ad (rhK nc) sa [.ref (ad 12 i0)] μ (iPo gkd_C ad (rhK nc) 12 i0 [(16, i0), (17, i0), (18, i0)] (w3 (w3 (w3 μ 12 i0 0 1) 12 i0 1 1) 12 i0 2 1)) := by
  refine gMetGi_of gI_one ⟨by decide +kernel, Nat.le_of_ble_eq_true rfl⟩ (fun p e s m args below meth c sz hr hlk hnm0 => ?_)
  show J p l e ({ frames := 2, cells := 3, slots := 72, locals := 60 } : Room) s m args below meth c cX1_init 1 RX1 D [(12, i0)] gkd_C tc ad (rhK nc) sa (gA [(12, i0)] ad sz) s.heap 0 0 (MQ below (gQG D tc [(12, i0)] ad sz (iPo gkd_C ad (rhK nc) 12 i0 [(16, i0), (17, i0), (18, i0)] (w3 (w3 (w3 μ 12 i0 0 1) 12 i0 1 1) 12 i0 2 1))) args s 3 72 (gA [(12, i0)] ad sz)) μ 0 [(0, .ref (ad 12 i0))] []
  refine J_aload_n (i := 0) (q := 0) (pc1 := 1) dX1_init_0 rfl rfl rfl ?_
  refine J_objInit (pc1 := 4) wlX1_3o imObj cdObj ⟨Nat.le_of_ble_eq_true rfl, Nat.le_of_ble_eq_true rfl⟩ dX1_init_1 rfl ?_
  refine J_aload_n (i := 0) (q := 0) (pc1 := 5) dX1_init_4 rfl rfl rfl ?_
  refine J_bipush (v := 24) (pc1 := 7) dX1_init_5 (by decide) rfl ?_
  refine J_newIk (N := 24) (f0 := 16) (i0 := i0) (pc1 := 9) (by simp) rfl (fun f i9 k hm hr => by
    simp only [List.mem_append, List.mem_singleton, Prod.mk.injEq] at hm
    obtain ⟨rfl, e9⟩ := hm
    have h9 : ([0, 1, 2] : List Nat).contains k = true := hr.1
    have h8 : k = 0 ∨ k = 1 ∨ k = 2 := by simpa using h9
    rw [e9]
    rcases h8 with rfl | rfl | rfl
    · rw [rhK_no (by simp [w3, hz])]; simp
    · rw [rhK_no (by simp [w3, hz])]; simp
    · rw [rhK_no (by simp [w3, hz])]; simp) arI (by decide) (by decide) (by decide) (Nat.le_of_ble_eq_true rfl) (Nat.le_of_ble_eq_true rfl) (by exact hzN 16 i0 (by simp)) dX1_init_7 rfl (fun q0 hq0 => ?_)
  rw [show (Value.ref q0) = .ref ((gAd ad 16 i0 q0) 16 i0) from congrArg Value.ref gAd_at.symm, show (Value.ref (ad 12 i0)) = .ref ((gAd ad 16 i0 q0) 12 i0) from congrArg Value.ref (gAd_ne (by simp)).symm]
  refine J_putRF (T := TX1) (f' := 16) (i' := i0) (v := 1) (pc1 := 12) (by simp) rfl rfl inX1 tyX1 tyX1_ok nmX1 0 (by decide) rfl (fun row k _ => rhK_put (by simp) (fun r r' k h => gh12) (fun r _ => rfl) row k) flX1_9 rfl rfl hnm0 rfl rfl rfl dX1_init_9 rfl ?_
  refine J_aload_n (i := 0) (q := 0) (pc1 := 13) dX1_init_12 rfl rfl rfl ?_
  refine J_bipush (v := 24) (pc1 := 15) dX1_init_13 (by decide) rfl ?_
  refine J_newIk (N := 24) (f0 := 17) (i0 := i0) (pc1 := 17) (by simp) rfl (fun f i9 k hm hr => by
    simp only [List.mem_append, List.mem_singleton, Prod.mk.injEq] at hm
    rcases hm with (⟨rfl, e9⟩) | ⟨rfl, e9⟩
    · have h9 : ([0, 1, 2] : List Nat).contains k = true := hr.1
      have h8 : k = 0 ∨ k = 1 ∨ k = 2 := by simpa using h9
      rw [e9]
      rcases h8 with rfl | rfl | rfl
      · rw [rhK_at (by simp [w3, hz]), show grh_C nc _ 12 i0 0 = some (16, i0) from rfl]; simp
      · rw [rhK_no (by simp [w3, hz])]; simp
      · rw [rhK_no (by simp [w3, hz])]; simp
    · exact (show False from hr).elim) arI (by decide) (by decide) (by decide) (Nat.le_of_ble_eq_true rfl) (Nat.le_of_ble_eq_true rfl) (by rw [w3_ne (by simp)]; exact hzN 17 i0 (by simp)) dX1_init_15 rfl (fun q1 hq1 => ?_)
  rw [show (Value.ref q1) = .ref ((gAd (gAd ad 16 i0 q0) 17 i0 q1) 17 i0) from congrArg Value.ref gAd_at.symm, show (Value.ref ((gAd ad 16 i0 q0) 12 i0)) = .ref ((gAd (gAd ad 16 i0 q0) 17 i0 q1) 12 i0) from congrArg Value.ref (gAd_ne (by simp)).symm]
  refine J_putRF (T := TX1) (f' := 17) (i' := i0) (v := 1) (pc1 := 20) (by simp) rfl rfl inX1 tyX1 tyX1_ok nmX1 1 (by decide) rfl (fun row k _ => rhK_put (by simp) (fun r r' k h => gh12) (fun r _ => rfl) row k) flX1_15 rfl rfl hnm0 rfl rfl rfl dX1_init_17 rfl ?_
  refine J_aload_n (i := 0) (q := 0) (pc1 := 21) dX1_init_20 rfl rfl rfl ?_
  refine J_bipush (v := 24) (pc1 := 23) dX1_init_21 (by decide) rfl ?_
  refine J_newIk (N := 24) (f0 := 18) (i0 := i0) (pc1 := 25) (by simp) rfl (fun f i9 k hm hr => by
    simp only [List.mem_append, List.mem_singleton, Prod.mk.injEq] at hm
    rcases hm with ((⟨rfl, e9⟩) | ⟨rfl, e9⟩) | ⟨rfl, e9⟩
    · have h9 : ([0, 1, 2] : List Nat).contains k = true := hr.1
      have h8 : k = 0 ∨ k = 1 ∨ k = 2 := by simpa using h9
      rw [e9]
      rcases h8 with rfl | rfl | rfl
      · rw [rhK_at (by simp [w3, hz]), show grh_C nc _ 12 i0 0 = some (16, i0) from rfl]; simp
      · rw [rhK_at (by simp [w3, hz]), show grh_C nc _ 12 i0 1 = some (17, i0) from rfl]; simp
      · rw [rhK_no (by simp [w3, hz])]; simp
    · exact (show False from hr).elim
    · exact (show False from hr).elim) arI (by decide) (by decide) (by decide) (Nat.le_of_ble_eq_true rfl) (Nat.le_of_ble_eq_true rfl) (by rw [w3_ne (by simp)]; rw [w3_ne (by simp)]; exact hzN 18 i0 (by simp)) dX1_init_23 rfl (fun q2 hq2 => ?_)
  rw [show (Value.ref q2) = .ref ((gAd (gAd (gAd ad 16 i0 q0) 17 i0 q1) 18 i0 q2) 18 i0) from congrArg Value.ref gAd_at.symm, show (Value.ref ((gAd (gAd ad 16 i0 q0) 17 i0 q1) 12 i0)) = .ref ((gAd (gAd (gAd ad 16 i0 q0) 17 i0 q1) 18 i0 q2) 12 i0) from congrArg Value.ref (gAd_ne (by simp)).symm]
  refine J_putRF (T := TX1) (f' := 18) (i' := i0) (v := 1) (pc1 := 28) (by simp) rfl rfl inX1 tyX1 tyX1_ok nmX1 2 (by decide) rfl (fun row k _ => rhK_put (by simp) (fun r r' k h => gh12) (fun r _ => rfl) row k) flX1_18 rfl rfl hnm0 rfl rfl rfl dX1_init_25 rfl ?_
  exact J_vretG hr hlk ⟨rfl, rfl, rfl, (gAd_ne (by simp)).trans ((gAd_ne (by simp)).trans (gAd_ne (by simp))), rfl, rfl⟩ (gI_snoc (gI_snoc (gI_snoc (gI_one) (by simp) hq0) (by simp) hq1) (by simp) hq2) (Nat.le_of_ble_eq_true rfl) (Nat.le_of_ble_eq_true rfl) dX1_init_28
theorem kX2_init {nc i0 : Nat} {ad : Nat → Nat → Nat} {μ : gM} (hz : μ 19 i0 = fun _ => 0) (hzN : ∀ f i9, (f, i9) ∈ ([(20, i0), (21, i0), (22, i0)] : List (Nat × Nat)) → μ f i9 = fun _ => 0) : gMetG l yX2_init cX2_init 1 none ({ frames := 2, cells := 3, slots := 12, locals := 60 } : Room) D [(19, i0)] gkd_C tc ad (rhK nc) sa [.ref (ad 19 i0)] μ (iPo gkd_C ad (rhK nc) 19 i0 [(20, i0), (21, i0), (22, i0)] (w3 (w3 (w3 μ 19 i0 0 1) 19 i0 1 1) 19 i0 2 1)) := by
  refine gMetGi_of gI_one ⟨by decide +kernel, Nat.le_of_ble_eq_true rfl⟩ (fun p e s m args below meth c sz hr hlk hnm0 => ?_)
  show J p l e ({ frames := 2, cells := 3, slots := 12, locals := 60 } : Room) s m args below meth c cX2_init 1 RX2 D [(19, i0)] gkd_C tc ad (rhK nc) sa (gA [(19, i0)] ad sz) s.heap 0 0 (MQ below (gQG D tc [(19, i0)] ad sz (iPo gkd_C ad (rhK nc) 19 i0 [(20, i0), (21, i0), (22, i0)] (w3 (w3 (w3 μ 19 i0 0 1) 19 i0 1 1) 19 i0 2 1))) args s 3 12 (gA [(19, i0)] ad sz)) μ 0 [(0, .ref (ad 19 i0))] []
  refine J_aload_n (i := 0) (q := 0) (pc1 := 1) dX2_init_0 rfl rfl rfl ?_
  refine J_objInit (pc1 := 4) wlX2_3o imObj cdObj ⟨Nat.le_of_ble_eq_true rfl, Nat.le_of_ble_eq_true rfl⟩ dX2_init_1 rfl ?_
  refine J_aload_n (i := 0) (q := 0) (pc1 := 5) dX2_init_4 rfl rfl rfl ?_
  refine J_iconst (v := 4) (pc1 := 6) dX2_init_5 (by decide) rfl ?_
  refine J_newIk (N := 4) (f0 := 20) (i0 := i0) (pc1 := 8) (by simp) rfl (fun f i9 k hm hr => by
    simp only [List.mem_append, List.mem_singleton, Prod.mk.injEq] at hm
    obtain ⟨rfl, e9⟩ := hm
    have h9 : ([0, 1, 2] : List Nat).contains k = true := hr.1
    have h8 : k = 0 ∨ k = 1 ∨ k = 2 := by simpa using h9
    rw [e9]
    rcases h8 with rfl | rfl | rfl
    · rw [rhK_no (by simp [w3, hz])]; simp
    · rw [rhK_no (by simp [w3, hz])]; simp
    · rw [rhK_no (by simp [w3, hz])]; simp) arI (by decide) (by decide) (by decide) (Nat.le_of_ble_eq_true rfl) (Nat.le_of_ble_eq_true rfl) (by exact hzN 20 i0 (by simp)) dX2_init_6 rfl (fun q0 hq0 => ?_)
  rw [show (Value.ref q0) = .ref ((gAd ad 20 i0 q0) 20 i0) from congrArg Value.ref gAd_at.symm, show (Value.ref (ad 19 i0)) = .ref ((gAd ad 20 i0 q0) 19 i0) from congrArg Value.ref (gAd_ne (by simp)).symm]
  refine J_putRF (T := TX2) (f' := 20) (i' := i0) (v := 1) (pc1 := 11) (by simp) rfl rfl inX2 tyX2 tyX2_ok nmX2 0 (by decide) rfl (fun row k _ => rhK_put (by simp) (fun r r' k h => gh19) (fun r _ => rfl) row k) flX2_9 rfl rfl hnm0 rfl rfl rfl dX2_init_8 rfl ?_
  refine J_aload_n (i := 0) (q := 0) (pc1 := 12) dX2_init_11 rfl rfl rfl ?_
  refine J_iconst (v := 4) (pc1 := 13) dX2_init_12 (by decide) rfl ?_
  refine J_newIk (N := 4) (f0 := 21) (i0 := i0) (pc1 := 15) (by simp) rfl (fun f i9 k hm hr => by
    simp only [List.mem_append, List.mem_singleton, Prod.mk.injEq] at hm
    rcases hm with (⟨rfl, e9⟩) | ⟨rfl, e9⟩
    · have h9 : ([0, 1, 2] : List Nat).contains k = true := hr.1
      have h8 : k = 0 ∨ k = 1 ∨ k = 2 := by simpa using h9
      rw [e9]
      rcases h8 with rfl | rfl | rfl
      · rw [rhK_at (by simp [w3, hz]), show grh_C nc _ 19 i0 0 = some (20, i0) from rfl]; simp
      · rw [rhK_no (by simp [w3, hz])]; simp
      · rw [rhK_no (by simp [w3, hz])]; simp
    · exact (show False from hr).elim) arI (by decide) (by decide) (by decide) (Nat.le_of_ble_eq_true rfl) (Nat.le_of_ble_eq_true rfl) (by rw [w3_ne (by simp)]; exact hzN 21 i0 (by simp)) dX2_init_13 rfl (fun q1 hq1 => ?_)
  rw [show (Value.ref q1) = .ref ((gAd (gAd ad 20 i0 q0) 21 i0 q1) 21 i0) from congrArg Value.ref gAd_at.symm, show (Value.ref ((gAd ad 20 i0 q0) 19 i0)) = .ref ((gAd (gAd ad 20 i0 q0) 21 i0 q1) 19 i0) from congrArg Value.ref (gAd_ne (by simp)).symm]
  refine J_putRF (T := TX2) (f' := 21) (i' := i0) (v := 1) (pc1 := 18) (by simp) rfl rfl inX2 tyX2 tyX2_ok nmX2 1 (by decide) rfl (fun row k _ => rhK_put (by simp) (fun r r' k h => gh19) (fun r _ => rfl) row k) flX2_15 rfl rfl hnm0 rfl rfl rfl dX2_init_15 rfl ?_
  refine J_aload_n (i := 0) (q := 0) (pc1 := 19) dX2_init_18 rfl rfl rfl ?_
  refine J_iconst (v := 4) (pc1 := 20) dX2_init_19 (by decide) rfl ?_
  refine J_newIk (N := 4) (f0 := 22) (i0 := i0) (pc1 := 22) (by simp) rfl (fun f i9 k hm hr => by
    simp only [List.mem_append, List.mem_singleton, Prod.mk.injEq] at hm
    rcases hm with ((⟨rfl, e9⟩) | ⟨rfl, e9⟩) | ⟨rfl, e9⟩
    · have h9 : ([0, 1, 2] : List Nat).contains k = true := hr.1
      have h8 : k = 0 ∨ k = 1 ∨ k = 2 := by simpa using h9
      rw [e9]
      rcases h8 with rfl | rfl | rfl
      · rw [rhK_at (by simp [w3, hz]), show grh_C nc _ 19 i0 0 = some (20, i0) from rfl]; simp
      · rw [rhK_at (by simp [w3, hz]), show grh_C nc _ 19 i0 1 = some (21, i0) from rfl]; simp
      · rw [rhK_no (by simp [w3, hz])]; simp
    · exact (show False from hr).elim
    · exact (show False from hr).elim) arI (by decide) (by decide) (by decide) (Nat.le_of_ble_eq_true rfl) (Nat.le_of_ble_eq_true rfl) (by rw [w3_ne (by simp)]; rw [w3_ne (by simp)]; exact hzN 22 i0 (by simp)) dX2_init_20 rfl (fun q2 hq2 => ?_)
  rw [show (Value.ref q2) = .ref ((gAd (gAd (gAd ad 20 i0 q0) 21 i0 q1) 22 i0 q2) 22 i0) from congrArg Value.ref gAd_at.symm, show (Value.ref ((gAd (gAd ad 20 i0 q0) 21 i0 q1) 19 i0)) = .ref ((gAd (gAd (gAd ad 20 i0 q0) 21 i0 q1) 22 i0 q2) 19 i0) from congrArg Value.ref (gAd_ne (by simp)).symm]
  refine J_putRF (T := TX2) (f' := 22) (i' := i0) (v := 1) (pc1 := 25) (by simp) rfl rfl inX2 tyX2 tyX2_ok nmX2 2 (by decide) rfl (fun row k _ => rhK_put (by simp) (fun r r' k h => gh19) (fun r _ => rfl) row k) flX2_18 rfl rfl hnm0 rfl rfl rfl dX2_init_22 rfl ?_
  exact J_vretG hr hlk ⟨rfl, rfl, rfl, (gAd_ne (by simp)).trans ((gAd_ne (by simp)).trans (gAd_ne (by simp))), rfl, rfl⟩ (gI_snoc (gI_snoc (gI_snoc (gI_one) (by simp) hq0) (by simp) hq1) (by simp) hq2) (Nat.le_of_ble_eq_true rfl) (Nat.le_of_ble_eq_true rfl) dX2_init_25
theorem kX5_init {nc : Nat} {ad : Nat → Nat → Nat} {μ : gM} (hz : μ 1 0 = fun _ => 0) (hzN : ∀ f i9, (f, i9) ∈ ([(2, 0), (3, 0), (4, 0), (5, 0)] : List (Nat × Nat)) → μ f i9 = fun _ => 0) : gMetG l yX5_init cX5_init 1 none ({ frames := 2, cells := 4, slots := 128, locals := 60 } : Room) D [(1, 0)] gkd_C tc ad (rhK nc) sa [.ref (ad 1 0)] μ (iPo gkd_C ad (rhK nc) 1 0 [(2, 0), (3, 0), (4, 0), (5, 0)] (w3 (w3 (w3 (w3 μ 1 0 0 1) 1 0 1 1) 1 0 2 1) 1 0 3 1)) := by
  refine gMetGi_of gI_one ⟨by decide +kernel, Nat.le_of_ble_eq_true rfl⟩ (fun p e s m args below meth c sz hr hlk hnm0 => ?_)
  show J p l e ({ frames := 2, cells := 4, slots := 128, locals := 60 } : Room) s m args below meth c cX5_init 1 RX5 D [(1, 0)] gkd_C tc ad (rhK nc) sa (gA [(1, 0)] ad sz) s.heap 0 0 (MQ below (gQG D tc [(1, 0)] ad sz (iPo gkd_C ad (rhK nc) 1 0 [(2, 0), (3, 0), (4, 0), (5, 0)] (w3 (w3 (w3 (w3 μ 1 0 0 1) 1 0 1 1) 1 0 2 1) 1 0 3 1))) args s 4 128 (gA [(1, 0)] ad sz)) μ 0 [(0, .ref (ad 1 0))] []
  refine J_aload_n (i := 0) (q := 0) (pc1 := 1) dX5_init_0 rfl rfl rfl ?_
  refine J_objInit (pc1 := 4) wlX5_3o imObj cdObj ⟨Nat.le_of_ble_eq_true rfl, Nat.le_of_ble_eq_true rfl⟩ dX5_init_1 rfl ?_
  refine J_aload_n (i := 0) (q := 0) (pc1 := 5) dX5_init_4 rfl rfl rfl ?_
  refine J_bipush (v := 80) (pc1 := 7) dX5_init_5 (by decide) rfl ?_
  refine J_newCk (N := 80) (f0 := 2) (i0 := 0) (pc1 := 9) (by simp) rfl (fun f i9 k hm hr => by
    simp only [List.mem_append, List.mem_singleton, Prod.mk.injEq] at hm
    obtain ⟨rfl, e9⟩ := hm
    have h9 : ([0, 1, 2, 3] : List Nat).contains k = true := hr.1
    have h8 : k = 0 ∨ k = 1 ∨ k = 2 ∨ k = 3 := by simpa using h9
    rw [e9]
    rcases h8 with rfl | rfl | rfl | rfl
    · rw [rhK_no (by simp [w3, hz])]; simp
    · rw [rhK_no (by simp [w3, hz])]; simp
    · rw [rhK_no (by simp [w3, hz])]; simp
    · rw [rhK_no (by simp [w3, hz])]; simp) arC (by decide) (by decide) (by decide) (Nat.le_of_ble_eq_true rfl) (Nat.le_of_ble_eq_true rfl) (by exact hzN 2 0 (by simp)) dX5_init_7 rfl (fun q0 hq0 => ?_)
  rw [show (Value.ref q0) = .ref ((gAd ad 2 0 q0) 2 0) from congrArg Value.ref gAd_at.symm, show (Value.ref (ad 1 0)) = .ref ((gAd ad 2 0 q0) 1 0) from congrArg Value.ref (gAd_ne (by simp)).symm]
  refine J_putRF (T := TX5) (f' := 2) (i' := 0) (v := 1) (pc1 := 12) (by simp) rfl rfl inX5 tyX5 tyX5_ok nmX5 0 (by decide) rfl (fun row k _ => rhK_put (by simp) (fun r r' k h => gh1) (fun r _ => rfl) row k) flX5_9 rfl rfl hnm0 rfl rfl rfl dX5_init_9 rfl ?_
  refine J_aload_n (i := 0) (q := 0) (pc1 := 13) dX5_init_12 rfl rfl rfl ?_
  refine J_bipush (v := 16) (pc1 := 15) dX5_init_13 (by decide) rfl ?_
  refine J_newIk (N := 16) (f0 := 3) (i0 := 0) (pc1 := 17) (by simp) rfl (fun f i9 k hm hr => by
    simp only [List.mem_append, List.mem_singleton, Prod.mk.injEq] at hm
    rcases hm with (⟨rfl, e9⟩) | ⟨rfl, e9⟩
    · have h9 : ([0, 1, 2, 3] : List Nat).contains k = true := hr.1
      have h8 : k = 0 ∨ k = 1 ∨ k = 2 ∨ k = 3 := by simpa using h9
      rw [e9]
      rcases h8 with rfl | rfl | rfl | rfl
      · rw [rhK_at (by simp [w3, hz]), show grh_C nc _ 1 0 0 = some (2, 0) from rfl]; simp
      · rw [rhK_no (by simp [w3, hz])]; simp
      · rw [rhK_no (by simp [w3, hz])]; simp
      · rw [rhK_no (by simp [w3, hz])]; simp
    · exact (show False from hr).elim) arI (by decide) (by decide) (by decide) (Nat.le_of_ble_eq_true rfl) (Nat.le_of_ble_eq_true rfl) (by rw [w3_ne (by simp)]; exact hzN 3 0 (by simp)) dX5_init_15 rfl (fun q1 hq1 => ?_)
  rw [show (Value.ref q1) = .ref ((gAd (gAd ad 2 0 q0) 3 0 q1) 3 0) from congrArg Value.ref gAd_at.symm, show (Value.ref ((gAd ad 2 0 q0) 1 0)) = .ref ((gAd (gAd ad 2 0 q0) 3 0 q1) 1 0) from congrArg Value.ref (gAd_ne (by simp)).symm]
  refine J_putRF (T := TX5) (f' := 3) (i' := 0) (v := 1) (pc1 := 20) (by simp) rfl rfl inX5 tyX5 tyX5_ok nmX5 1 (by decide) rfl (fun row k _ => rhK_put (by simp) (fun r r' k h => gh1) (fun r _ => rfl) row k) flX5_15 rfl rfl hnm0 rfl rfl rfl dX5_init_17 rfl ?_
  refine J_aload_n (i := 0) (q := 0) (pc1 := 21) dX5_init_20 rfl rfl rfl ?_
  refine J_bipush (v := 16) (pc1 := 23) dX5_init_21 (by decide) rfl ?_
  refine J_newIk (N := 16) (f0 := 4) (i0 := 0) (pc1 := 25) (by simp) rfl (fun f i9 k hm hr => by
    simp only [List.mem_append, List.mem_singleton, Prod.mk.injEq] at hm
    rcases hm with ((⟨rfl, e9⟩) | ⟨rfl, e9⟩) | ⟨rfl, e9⟩
    · have h9 : ([0, 1, 2, 3] : List Nat).contains k = true := hr.1
      have h8 : k = 0 ∨ k = 1 ∨ k = 2 ∨ k = 3 := by simpa using h9
      rw [e9]
      rcases h8 with rfl | rfl | rfl | rfl
      · rw [rhK_at (by simp [w3, hz]), show grh_C nc _ 1 0 0 = some (2, 0) from rfl]; simp
      · rw [rhK_at (by simp [w3, hz]), show grh_C nc _ 1 0 1 = some (3, 0) from rfl]; simp
      · rw [rhK_no (by simp [w3, hz])]; simp
      · rw [rhK_no (by simp [w3, hz])]; simp
    · exact (show False from hr).elim
    · exact (show False from hr).elim) arI (by decide) (by decide) (by decide) (Nat.le_of_ble_eq_true rfl) (Nat.le_of_ble_eq_true rfl) (by rw [w3_ne (by simp)]; rw [w3_ne (by simp)]; exact hzN 4 0 (by simp)) dX5_init_23 rfl (fun q2 hq2 => ?_)
  rw [show (Value.ref q2) = .ref ((gAd (gAd (gAd ad 2 0 q0) 3 0 q1) 4 0 q2) 4 0) from congrArg Value.ref gAd_at.symm, show (Value.ref ((gAd (gAd ad 2 0 q0) 3 0 q1) 1 0)) = .ref ((gAd (gAd (gAd ad 2 0 q0) 3 0 q1) 4 0 q2) 1 0) from congrArg Value.ref (gAd_ne (by simp)).symm]
  refine J_putRF (T := TX5) (f' := 4) (i' := 0) (v := 1) (pc1 := 28) (by simp) rfl rfl inX5 tyX5 tyX5_ok nmX5 2 (by decide) rfl (fun row k _ => rhK_put (by simp) (fun r r' k h => gh1) (fun r _ => rfl) row k) flX5_19 rfl rfl hnm0 rfl rfl rfl dX5_init_25 rfl ?_
  refine J_aload_n (i := 0) (q := 0) (pc1 := 29) dX5_init_28 rfl rfl rfl ?_
  refine J_bipush (v := 16) (pc1 := 31) dX5_init_29 (by decide) rfl ?_
  refine J_newIk (N := 16) (f0 := 5) (i0 := 0) (pc1 := 33) (by simp) rfl (fun f i9 k hm hr => by
    simp only [List.mem_append, List.mem_singleton, Prod.mk.injEq] at hm
    rcases hm with (((⟨rfl, e9⟩) | ⟨rfl, e9⟩) | ⟨rfl, e9⟩) | ⟨rfl, e9⟩
    · have h9 : ([0, 1, 2, 3] : List Nat).contains k = true := hr.1
      have h8 : k = 0 ∨ k = 1 ∨ k = 2 ∨ k = 3 := by simpa using h9
      rw [e9]
      rcases h8 with rfl | rfl | rfl | rfl
      · rw [rhK_at (by simp [w3, hz]), show grh_C nc _ 1 0 0 = some (2, 0) from rfl]; simp
      · rw [rhK_at (by simp [w3, hz]), show grh_C nc _ 1 0 1 = some (3, 0) from rfl]; simp
      · rw [rhK_at (by simp [w3, hz]), show grh_C nc _ 1 0 2 = some (4, 0) from rfl]; simp
      · rw [rhK_no (by simp [w3, hz])]; simp
    · exact (show False from hr).elim
    · exact (show False from hr).elim
    · exact (show False from hr).elim) arI (by decide) (by decide) (by decide) (Nat.le_of_ble_eq_true rfl) (Nat.le_of_ble_eq_true rfl) (by rw [w3_ne (by simp)]; rw [w3_ne (by simp)]; rw [w3_ne (by simp)]; exact hzN 5 0 (by simp)) dX5_init_31 rfl (fun q3 hq3 => ?_)
  rw [show (Value.ref q3) = .ref ((gAd (gAd (gAd (gAd ad 2 0 q0) 3 0 q1) 4 0 q2) 5 0 q3) 5 0) from congrArg Value.ref gAd_at.symm, show (Value.ref ((gAd (gAd (gAd ad 2 0 q0) 3 0 q1) 4 0 q2) 1 0)) = .ref ((gAd (gAd (gAd (gAd ad 2 0 q0) 3 0 q1) 4 0 q2) 5 0 q3) 1 0) from congrArg Value.ref (gAd_ne (by simp)).symm]
  refine J_putRF (T := TX5) (f' := 5) (i' := 0) (v := 1) (pc1 := 36) (by simp) rfl rfl inX5 tyX5 tyX5_ok nmX5 3 (by decide) rfl (fun row k _ => rhK_put (by simp) (fun r r' k h => gh1) (fun r _ => rfl) row k) flX5_22 rfl rfl hnm0 rfl rfl rfl dX5_init_33 rfl ?_
  exact J_vretG hr hlk ⟨rfl, rfl, rfl, (gAd_ne (by simp)).trans ((gAd_ne (by simp)).trans ((gAd_ne (by simp)).trans (gAd_ne (by simp)))), rfl, rfl⟩ (gI_snoc (gI_snoc (gI_snoc (gI_snoc (gI_one) (by simp) hq0) (by simp) hq1) (by simp) hq2) (by simp) hq3) (Nat.le_of_ble_eq_true rfl) (Nat.le_of_ble_eq_true rfl) dX5_init_36
end SD1
