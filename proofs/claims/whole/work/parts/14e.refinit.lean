/-! new QuorumLogModel() -/
theorem wlX7_3o : Cond.methodLink RX7 3 Lib.objectInit ∈ BIG := bigT7 (i := 37) rfl rfl
section SD2
variable (l : Launch) (D : va_G) (tc : Nat → ClassId) (sa : Nat → Nat)
/-- the reference's pointers, those that are set already -/
def rhR : gRh := fun row _ _ k => if row k = 0 then none else some (k, 0)
theorem rhR_no {f i k : Nat} {row : Nat → Int32} (h : row k = 0) : rhR row f i k = none := if_pos h
theorem rhR_at {f i k : Nat} {row : Nat → Int32} (h : ¬ row k = 0) : rhR row f i k = some (k, 0) := if_neg h
theorem rhR_put {f i k0 : Nat} {v : Int32} (hv : ¬ v = 0) (row : Nat → Int32) (j : Nat) : rhR (upd row k0 v) f i j = if j = k0 then some (k0, 0) else rhR row f i j := by
  by_cases h : j = k0
  · subst h
    rw [if_pos rfl, rhR_at (by rw [upd_at]; exact hv)]
  · rw [if_neg h]
    unfold rhR
    rw [upd_ne _ _ h]
theorem gE_R0 {f i : Nat} (h : (f, i) ∈ gE_R) : i = 0 := by
  simp [gE_R] at h
  omega
theorem gRl_R {f i k : Nat} (h : (f, i) ∈ gE_R) (hf : ¬ f = 0) (hk : gRl gkd_R f k) : False := by
  simp [gE_R] at h
  rcases h with ⟨rfl, -⟩ | ⟨rfl, -⟩ | ⟨rfl, -⟩ | ⟨rfl, -⟩ | ⟨rfl, -⟩ | ⟨rfl, -⟩
  · exact hf rfl
  · exact hk
  · exact hk
  · exact hk
  · exact hk
  · exact hk
/-- what a new reference holds -/
def rPi (ad : Nat → Nat → Nat) : gPo := fun o1 E1 kd1 ad1 rh1 μ1 => o1 = none ∧ E1 = gE_R ∧ kd1 = gkd_R ∧ ad1 0 0 = ad 0 0 ∧ rh1 = grh_R ∧ RA (μ1 1 0) (zBegin 7 0) ∧ ∀ k, ¬ (k = 1 ∨ k = 2 ∨ k = 4 ∨ k = 5 ∨ k = 12) → μ1 0 0 k = 0
theorem kX7_init {ad : Nat → Nat → Nat} {μ : gM} (hz : μ 0 0 = fun _ => 0) (hzN : ∀ f, f ∈ [1, 2, 4, 5, 12] → μ f 0 = fun _ => 0) : gMetG l yX7_init cX7_init 1 none ({ frames := 4, cells := 5, slots := 4037, locals := 160 } : Room) D [(0, 0)] gkd_R tc ad rhR sa [.ref (ad 0 0)] μ (rPi ad) := by
  refine gMetGi_of gI_one ⟨by decide +kernel, Nat.le_of_ble_eq_true rfl⟩ (fun p e s m args below meth c sz hr hlk hnm0 => ?_)
  show J p l e ({ frames := 4, cells := 5, slots := 4037, locals := 160 } : Room) s m args below meth c cX7_init 1 RX7 D [(0, 0)] gkd_R tc ad rhR sa (gA [(0, 0)] ad sz) s.heap 0 0 (MQ below (gQG D tc [(0, 0)] ad sz (rPi ad)) args s 5 4037 (gA [(0, 0)] ad sz)) μ 0 [(0, .ref (ad 0 0))] []
  refine J_aload_n (i := 0) (q := 0) (pc1 := 1) dX7_init_0 rfl rfl rfl ?_
  refine J_objInit (pc1 := 4) wlX7_3o imObj cdObj ⟨Nat.le_of_ble_eq_true rfl, Nat.le_of_ble_eq_true rfl⟩ dX7_init_1 rfl ?_
  refine J_aload_n (i := 0) (q := 0) (pc1 := 5) dX7_init_4 rfl rfl rfl ?_
  refine J_sipush (v := 1616) (pc1 := 8) dX7_init_5 (by decide) rfl ?_
  refine J_newIk (N := 1616) (f0 := 1) (i0 := 0) (pc1 := 10) (by simp) rfl (fun f i9 k hm hr => by
    simp only [List.mem_append, List.mem_singleton, Prod.mk.injEq] at hm
    obtain ⟨rfl, e9⟩ := hm
    have h9 : ([1, 2, 4, 5, 12] : List Nat).contains k = true := hr.1
    have h8 : k = 1 ∨ k = 2 ∨ k = 4 ∨ k = 5 ∨ k = 12 := by simpa using h9
    rw [e9]
    rcases h8 with rfl | rfl | rfl | rfl | rfl
    · rw [rhR_no (by simp [w3, hz])]; simp
    · rw [rhR_no (by simp [w3, hz])]; simp
    · rw [rhR_no (by simp [w3, hz])]; simp
    · rw [rhR_no (by simp [w3, hz])]; simp
    · rw [rhR_no (by simp [w3, hz])]; simp) arI (by decide) (by decide) (by decide) (Nat.le_of_ble_eq_true rfl) (Nat.le_of_ble_eq_true rfl) (by exact hzN 1 (by simp)) dX7_init_8 rfl (fun q0 hq0 => ?_)
  rw [show (Value.ref q0) = .ref ((gAd ad 1 0 q0) 1 0) from congrArg Value.ref gAd_at.symm, show (Value.ref (ad 0 0)) = .ref ((gAd ad 1 0 q0) 0 0) from congrArg Value.ref (gAd_ne (by simp)).symm]
  refine J_putRF (T := TX7) (f' := 1) (i' := 0) (v := 1) (pc1 := 13) (by simp) rfl rfl inX7 tyX7 tyX7_ok nmX7 1 (by decide) rfl (fun row k _ => rhR_put (by decide) row k) flX7_9 rfl rfl hnm0 rfl rfl rfl dX7_init_10 rfl ?_
  refine J_aload_n (i := 0) (q := 0) (pc1 := 14) dX7_init_13 rfl rfl rfl ?_
  refine J_sipush (v := 1616) (pc1 := 17) dX7_init_14 (by decide) rfl ?_
  refine J_newIk (N := 1616) (f0 := 2) (i0 := 0) (pc1 := 19) (by simp) rfl (fun f i9 k hm hr => by
    simp only [List.mem_append, List.mem_singleton, Prod.mk.injEq] at hm
    rcases hm with (⟨rfl, e9⟩) | ⟨rfl, e9⟩
    · have h9 : ([1, 2, 4, 5, 12] : List Nat).contains k = true := hr.1
      have h8 : k = 1 ∨ k = 2 ∨ k = 4 ∨ k = 5 ∨ k = 12 := by simpa using h9
      rw [e9]
      rcases h8 with rfl | rfl | rfl | rfl | rfl
      · rw [rhR_at (by simp [w3, hz])]; simp
      · rw [rhR_no (by simp [w3, hz])]; simp
      · rw [rhR_no (by simp [w3, hz])]; simp
      · rw [rhR_no (by simp [w3, hz])]; simp
      · rw [rhR_no (by simp [w3, hz])]; simp
    · exact (show False from hr).elim) arI (by decide) (by decide) (by decide) (Nat.le_of_ble_eq_true rfl) (Nat.le_of_ble_eq_true rfl) (by rw [w3_ne (by simp)]; exact hzN 2 (by simp)) dX7_init_17 rfl (fun q1 hq1 => ?_)
  rw [show (Value.ref q1) = .ref ((gAd (gAd ad 1 0 q0) 2 0 q1) 2 0) from congrArg Value.ref gAd_at.symm, show (Value.ref ((gAd ad 1 0 q0) 0 0)) = .ref ((gAd (gAd ad 1 0 q0) 2 0 q1) 0 0) from congrArg Value.ref (gAd_ne (by simp)).symm]
  refine J_putRF (T := TX7) (f' := 2) (i' := 0) (v := 1) (pc1 := 22) (by simp) rfl rfl inX7 tyX7 tyX7_ok nmX7 2 (by decide) rfl (fun row k _ => rhR_put (by decide) row k) flX7_13 rfl rfl hnm0 rfl rfl rfl dX7_init_19 rfl ?_
  refine J_aload_n (i := 0) (q := 0) (pc1 := 23) dX7_init_22 rfl rfl rfl ?_
  refine J_bipush (v := 25) (pc1 := 25) dX7_init_23 (by decide) rfl ?_
  refine J_newIk (N := 25) (f0 := 4) (i0 := 0) (pc1 := 27) (by simp) rfl (fun f i9 k hm hr => by
    simp only [List.mem_append, List.mem_singleton, Prod.mk.injEq] at hm
    rcases hm with ((⟨rfl, e9⟩) | ⟨rfl, e9⟩) | ⟨rfl, e9⟩
    · have h9 : ([1, 2, 4, 5, 12] : List Nat).contains k = true := hr.1
      have h8 : k = 1 ∨ k = 2 ∨ k = 4 ∨ k = 5 ∨ k = 12 := by simpa using h9
      rw [e9]
      rcases h8 with rfl | rfl | rfl | rfl | rfl
      · rw [rhR_at (by simp [w3, hz])]; simp
      · rw [rhR_at (by simp [w3, hz])]; simp
      · rw [rhR_no (by simp [w3, hz])]; simp
      · rw [rhR_no (by simp [w3, hz])]; simp
      · rw [rhR_no (by simp [w3, hz])]; simp
    · exact (show False from hr).elim
    · exact (show False from hr).elim) arI (by decide) (by decide) (by decide) (Nat.le_of_ble_eq_true rfl) (Nat.le_of_ble_eq_true rfl) (by rw [w3_ne (by simp)]; rw [w3_ne (by simp)]; exact hzN 4 (by simp)) dX7_init_25 rfl (fun q2 hq2 => ?_)
  rw [show (Value.ref q2) = .ref ((gAd (gAd (gAd ad 1 0 q0) 2 0 q1) 4 0 q2) 4 0) from congrArg Value.ref gAd_at.symm, show (Value.ref ((gAd (gAd ad 1 0 q0) 2 0 q1) 0 0)) = .ref ((gAd (gAd (gAd ad 1 0 q0) 2 0 q1) 4 0 q2) 0 0) from congrArg Value.ref (gAd_ne (by simp)).symm]
  refine J_putRF (T := TX7) (f' := 4) (i' := 0) (v := 1) (pc1 := 30) (by simp) rfl rfl inX7 tyX7 tyX7_ok nmX7 4 (by decide) rfl (fun row k _ => rhR_put (by decide) row k) flX7_16 rfl rfl hnm0 rfl rfl rfl dX7_init_27 rfl ?_
  refine J_aload_n (i := 0) (q := 0) (pc1 := 31) dX7_init_30 rfl rfl rfl ?_
  refine J_bipush (v := 80) (pc1 := 33) dX7_init_31 (by decide) rfl ?_
  refine J_newCk (N := 80) (f0 := 5) (i0 := 0) (pc1 := 35) (by simp) rfl (fun f i9 k hm hr => by
    simp only [List.mem_append, List.mem_singleton, Prod.mk.injEq] at hm
    rcases hm with (((⟨rfl, e9⟩) | ⟨rfl, e9⟩) | ⟨rfl, e9⟩) | ⟨rfl, e9⟩
    · have h9 : ([1, 2, 4, 5, 12] : List Nat).contains k = true := hr.1
      have h8 : k = 1 ∨ k = 2 ∨ k = 4 ∨ k = 5 ∨ k = 12 := by simpa using h9
      rw [e9]
      rcases h8 with rfl | rfl | rfl | rfl | rfl
      · rw [rhR_at (by simp [w3, hz])]; simp
      · rw [rhR_at (by simp [w3, hz])]; simp
      · rw [rhR_at (by simp [w3, hz])]; simp
      · rw [rhR_no (by simp [w3, hz])]; simp
      · rw [rhR_no (by simp [w3, hz])]; simp
    · exact (show False from hr).elim
    · exact (show False from hr).elim
    · exact (show False from hr).elim) arC (by decide) (by decide) (by decide) (Nat.le_of_ble_eq_true rfl) (Nat.le_of_ble_eq_true rfl) (by rw [w3_ne (by simp)]; rw [w3_ne (by simp)]; rw [w3_ne (by simp)]; exact hzN 5 (by simp)) dX7_init_33 rfl (fun q3 hq3 => ?_)
  rw [show (Value.ref q3) = .ref ((gAd (gAd (gAd (gAd ad 1 0 q0) 2 0 q1) 4 0 q2) 5 0 q3) 5 0) from congrArg Value.ref gAd_at.symm, show (Value.ref ((gAd (gAd (gAd ad 1 0 q0) 2 0 q1) 4 0 q2) 0 0)) = .ref ((gAd (gAd (gAd (gAd ad 1 0 q0) 2 0 q1) 4 0 q2) 5 0 q3) 0 0) from congrArg Value.ref (gAd_ne (by simp)).symm]
  refine J_putRF (T := TX7) (f' := 5) (i' := 0) (v := 1) (pc1 := 38) (by simp) rfl rfl inX7 tyX7 tyX7_ok nmX7 5 (by decide) rfl (fun row k _ => rhR_put (by decide) row k) flX7_19 rfl rfl hnm0 rfl rfl rfl dX7_init_35 rfl ?_
  refine J_aload_n (i := 0) (q := 0) (pc1 := 39) dX7_init_38 rfl rfl rfl ?_
  refine J_sipush (v := 700) (pc1 := 42) dX7_init_39 (by decide) rfl ?_
  refine J_newCk (N := 700) (f0 := 12) (i0 := 0) (pc1 := 44) (by simp) rfl (fun f i9 k hm hr => by
    simp only [List.mem_append, List.mem_singleton, Prod.mk.injEq] at hm
    rcases hm with ((((⟨rfl, e9⟩) | ⟨rfl, e9⟩) | ⟨rfl, e9⟩) | ⟨rfl, e9⟩) | ⟨rfl, e9⟩
    · have h9 : ([1, 2, 4, 5, 12] : List Nat).contains k = true := hr.1
      have h8 : k = 1 ∨ k = 2 ∨ k = 4 ∨ k = 5 ∨ k = 12 := by simpa using h9
      rw [e9]
      rcases h8 with rfl | rfl | rfl | rfl | rfl
      · rw [rhR_at (by simp [w3, hz])]; simp
      · rw [rhR_at (by simp [w3, hz])]; simp
      · rw [rhR_at (by simp [w3, hz])]; simp
      · rw [rhR_at (by simp [w3, hz])]; simp
      · rw [rhR_no (by simp [w3, hz])]; simp
    · exact (show False from hr).elim
    · exact (show False from hr).elim
    · exact (show False from hr).elim
    · exact (show False from hr).elim) arC (by decide) (by decide) (by decide) (Nat.le_of_ble_eq_true rfl) (Nat.le_of_ble_eq_true rfl) (by rw [w3_ne (by simp)]; rw [w3_ne (by simp)]; rw [w3_ne (by simp)]; rw [w3_ne (by simp)]; exact hzN 12 (by simp)) dX7_init_42 rfl (fun q4 hq4 => ?_)
  rw [show (Value.ref q4) = .ref ((gAd (gAd (gAd (gAd (gAd ad 1 0 q0) 2 0 q1) 4 0 q2) 5 0 q3) 12 0 q4) 12 0) from congrArg Value.ref gAd_at.symm, show (Value.ref ((gAd (gAd (gAd (gAd ad 1 0 q0) 2 0 q1) 4 0 q2) 5 0 q3) 0 0)) = .ref ((gAd (gAd (gAd (gAd (gAd ad 1 0 q0) 2 0 q1) 4 0 q2) 5 0 q3) 12 0 q4) 0 0) from congrArg Value.ref (gAd_ne (by simp)).symm]
  refine J_putRF (T := TX7) (f' := 12) (i' := 0) (v := 1) (pc1 := 47) (by simp) rfl rfl inX7 tyX7 tyX7_ok nmX7 12 (by decide) rfl (fun row k _ => rhR_put (by decide) row k) flX7_23 rfl rfl hnm0 rfl rfl rfl dX7_init_44 rfl ?_
  have hIr : gI gE_R (gAd (gAd (gAd (gAd (gAd ad 1 0 q0) 2 0 q1) 4 0 q2) 5 0 q3) 12 0 q4) := gI_snoc (gI_snoc (gI_snoc (gI_snoc (gI_snoc (gI_one) (by simp) hq0) (by simp) hq1) (by simp) hq2) (by simp) hq3) (by simp) hq4
  have h00 : (gAd (gAd (gAd (gAd (gAd ad 1 0 q0) 2 0 q1) 4 0 q2) 5 0 q3) 12 0 q4) 0 0 = ad 0 0 := (gAd_ne (by simp)).trans ((gAd_ne (by simp)).trans ((gAd_ne (by simp)).trans ((gAd_ne (by simp)).trans (gAd_ne (by simp)))))
  have hmu : ∀ k, ¬ (k = 1 ∨ k = 2 ∨ k = 4 ∨ k = 5 ∨ k = 12) → (w3 (w3 (w3 (w3 (w3 μ 0 0 1 1) 0 0 2 1) 0 0 4 1) 0 0 5 1) 0 0 12 1) 0 0 k = 0 := fun k hk => by
    simp only [w3]
    rw [if_neg (by omega), if_neg (by omega), if_neg (by omega), if_neg (by omega), if_neg (by omega), hz]
  have hmr : ∀ k, (k = 1 ∨ k = 2 ∨ k = 4 ∨ k = 5 ∨ k = 12) → (w3 (w3 (w3 (w3 (w3 μ 0 0 1 1) 0 0 2 1) 0 0 4 1) 0 0 5 1) 0 0 12 1) 0 0 k = 1 := fun k hk => by
    rcases hk with rfl | rfl | rfl | rfl | rfl <;> simp [w3]
  generalize (gAd (gAd (gAd (gAd (gAd ad 1 0 q0) 2 0 q1) 4 0 q2) 5 0 q3) 12 0 q4) = ad5 at *
  generalize (w3 (w3 (w3 (w3 (w3 μ 0 0 1 1) 0 0 2 1) 0 0 4 1) 0 0 5 1) 0 0 12 1) = μ5 at *
  refine J_conv2 (E1 := gE_R) (kd1 := gkd_R) (ad1 := ad5) (rh1 := grh_R) (μ1 := μ5) hIr (fun f i h => ⟨f, i, h, rfl, g_e_cg (fun k hk => by
    have hf : f = 0 ∨ ¬ f = 0 := by omega
    rcases hf with rfl | hf
    · have h9 : ([1, 2, 4, 5, 12] : List Nat).contains k = true := hk.1
      have h8 : k = 1 ∨ k = 2 ∨ k = 4 ∨ k = 5 ∨ k = 12 := by simpa using h9
      have hi : i = 0 := gE_R0 h
      rw [hi, rhR_at (by rw [hmr k h8]; decide)]
      rfl
    · exact (gRl_R h hf hk).elim)⟩) ?_
  refine J_aload_n (i := 0) (q := 0) (pc1 := 48) dX7_init_47 rfl rfl rfl ?_
  refine J_bipush (v := 7) (pc1 := 50) dX7_init_48 (by decide) rfl ?_
  refine J_iconst (v := 0) (pc1 := 51) dX7_init_50 (by decide) rfl ?_
  obtain ⟨μ6, hb, hF, hR⟩ := mX7_begin_ok (μ := μ5) (a1 := 7) (a2 := 0) (g := 7) ⟨by decide, by decide⟩ rfl
  refine J_runM (o := none) (μ1 := μ6) (pc1 := 54) (st1 := []) (ce := 5) (sl := 4037) (J_hV (st := []) (As := [.int 7, .int 0]) (gMet.G hIr ⟨rfl, rfl⟩ (kX7_begin l D tc sa ad5 hIr 7 0 μ5 μ6 hb)) wcX7_begin rfl wlX7_26 rfl eR0 rfl rfl rfl ⟨Nat.le_of_ble_eq_true rfl, Nat.le_of_ble_eq_true rfl⟩ ⟨Nat.le_of_ble_eq_true rfl, Nat.le_of_ble_eq_true rfl⟩ (Nat.le_of_ble_eq_true rfl) dX7_init_51) rfl rfl rfl rfl ?_
  exact J_vretG hr hlk ⟨rfl, rfl, rfl, h00, rfl, hR, fun k hk => by rw [hF 0 0 (by omega)]; exact hmu k hk⟩ hIr (Nat.le_of_ble_eq_true rfl) (Nat.le_of_ble_eq_true rfl) dX7_init_54
end SD2
