/-! Replica(int) -/
theorem wlX4_3o : Cond.methodLink RX4 3 Lib.objectInit ∈ BIG := bigT1 (i := 52) rfl rfl
theorem clX4_15 : Cond.classLink RX4 15 RX1 ∈ BIG := bigT1 (i := 53) rfl rfl
theorem instX1 : Cond.instantiable RX1 12 ∈ BIG := bigT1 (i := 54) rfl rfl
theorem wlX4_17 : Cond.methodLink RX4 17 yX1_init ∈ BIG := bigT1 (i := 55) rfl rfl
theorem imX1_init : Cond.instanceMethod yX1_init ∈ BIG := bigT1 (i := 56) rfl rfl
theorem cdX1_init : Cond.code yX1_init cX1_init 1 (none) ∈ BIG := bigT1 (i := 57) rfl rfl
theorem wiX4_17 : wCi RX4 17 yX1_init cX1_init 1 0 := ⟨⟨wlX4_17, imX1_init, iniX1, cdX1_init⟩, rfl, by decide +kernel⟩
section SD3
variable (l : Launch) (D : va_G) (tc : Nat → ClassId) (sa : Nat → Nat)
theorem clE_hrh {kd : Nat → gKd} {rh : gRh} {E : List (Nat × Nat)} {μ : gM} {f0 i0 : Nat} (h : clE kd rh E μ) (hf : (f0, i0) ∉ E) : ∀ f i k, (f, i) ∈ E → gRl kd f k → rh (μ f i) f i k ≠ some (f0, i0) := fun f i k hm hr e => hf (h f i k _ hm hr e)
theorem clE_new {kd : Nat → gKd} {rh : gRh} {E : List (Nat × Nat)} {μ : gM} {f0 i0 : Nat} (h : clE kd rh E μ) (hn : ∀ k, gRl kd f0 k → rh (μ f0 i0) f0 i0 k = none) : clE kd rh (E ++ [(f0, i0)]) μ := fun f i k z hm hr hz => by
  rcases List.mem_append.mp hm with hm | hm
  · exact List.mem_append_left _ (h f i k z hm hr hz)
  · obtain ⟨rfl, rfl⟩ := Prod.mk.inj (List.mem_singleton.mp hm)
    rw [hn k hr] at hz
    cases hz
theorem clE_put {kd : Nat → gKd} {rh : gRh} {E : List (Nat × Nat)} {μ : gM} {f i k0 : Nat} {v : Int32} {z : Nat × Nat} (h : clE kd rh E μ) (hz : z ∈ E) (hp : ∀ j, rh (upd (μ f i) k0 v) f i j = if j = k0 then some z else rh (μ f i) f i j) : clE kd rh E (w3 μ f i k0 v) := fun f9 i9 k z9 hm hr h9 => by
  by_cases e : f9 = f ∧ i9 = i
  · obtain ⟨rfl, rfl⟩ := e
    rw [w3_row, hp k] at h9
    by_cases ek : k = k0
    · rw [if_pos ek] at h9
      cases h9
      exact hz
    · rw [if_neg ek] at h9
      exact h f9 i9 k z9 hm hr h9
  · rw [w3_ne e] at h9
    exact h f9 i9 k z9 hm hr h9
theorem muN_id {f0 i0 : Nat} {New : List (Nat × Nat)} {ν μ : gM} (h : ∀ f i, ¬ ((f = f0 ∧ i = i0) ∨ (f, i) ∈ New) → ν f i = μ f i) : muN f0 i0 New ν μ = ν := by
  funext f i
  unfold muN
  by_cases e : (f = f0 ∧ i = i0) ∨ (f, i) ∈ New
  · rw [if_pos e]
  · rw [if_neg e, h f i e]
theorem clE_X1 {nc i : Nat} {μ : gM} (hz : μ 12 i = fun _ => 0) : clE gkd_C (rhK nc) ((12, i) :: [(16, i), (17, i), (18, i)]) (w3 (w3 (w3 μ 12 i 0 1) 12 i 1 1) 12 i 2 1) := fun f i9 k z hm hr h9 => by
  simp only [List.mem_cons, Prod.mk.injEq, List.not_mem_nil, or_false] at hm
  rcases hm with ⟨rfl, e9⟩ | ⟨rfl, e9⟩ | ⟨rfl, e9⟩ | ⟨rfl, e9⟩
  · rw [e9] at h9
    have q9 : ([0, 1, 2] : List Nat).contains k = true := hr.1
    have q8 : k = 0 ∨ k = 1 ∨ k = 2 := by simpa using q9
    rcases q8 with rfl | rfl | rfl
    · rw [rhK_at (by simp [w3]), show grh_C nc _ 12 i 0 = some (16, i) from rfl] at h9
      cases h9; simp
    · rw [rhK_at (by simp [w3]), show grh_C nc _ 12 i 1 = some (17, i) from rfl] at h9
      cases h9; simp
    · rw [rhK_at (by simp [w3]), show grh_C nc _ 12 i 2 = some (18, i) from rfl] at h9
      cases h9; simp
  · exact (show False from hr).elim
  · exact (show False from hr).elim
  · exact (show False from hr).elim
/-- a new replica's memory -/
def repM (μ : gM) (i : Nat) (x : Int32) : gM := (w3 (w3 (w3 (w3 (w3 (w3 (w3 (w3 μ 11 i 0 x) 12 i 0 1) 12 i 1 1) 12 i 2 1) 11 i 1 1) 11 i 2 1) 11 i 3 1) 11 i 4 1)
theorem kX4_init {nc i : Nat} {ad : Nat → Nat → Nat} {μ : gM} {x : Int32} (hz : μ 11 i = fun _ => 0) (hzN : ∀ f i9, (f, i9) ∈ ([(12, i), (16, i), (17, i), (18, i), (13, i), (14, i), (15, i)] : List (Nat × Nat)) → μ f i9 = fun _ => 0) : gMetG l yX4_init cX4_init 2 none ({ frames := 4, cells := 7, slots := 99, locals := 160 } : Room) D [(11, i)] gkd_C tc ad (rhK nc) sa [.ref (ad 11 i), .int x] μ (iPo gkd_C ad (rhK nc) 11 i [(12, i), (16, i), (17, i), (18, i), (13, i), (14, i), (15, i)] (repM μ i x)) := by
  refine gMetGi_of gI_one ⟨by decide +kernel, Nat.le_of_ble_eq_true rfl⟩ (fun p e s m args below meth c sz hr hlk hnm0 => ?_)
  show J p l e ({ frames := 4, cells := 7, slots := 99, locals := 160 } : Room) s m args below meth c cX4_init 2 RX4 D [(11, i)] gkd_C tc ad (rhK nc) sa (gA [(11, i)] ad sz) s.heap 0 0 (MQ below (gQG D tc [(11, i)] ad sz (iPo gkd_C ad (rhK nc) 11 i [(12, i), (16, i), (17, i), (18, i), (13, i), (14, i), (15, i)] (repM μ i x))) args s 7 99 (gA [(11, i)] ad sz)) μ 0 [(0, .ref (ad 11 i)), (1, .int x)] []
  refine J_aload_n (i := 0) (q := 0) (pc1 := 1) dX4_init_0 rfl rfl rfl ?_
  refine J_objInit (pc1 := 4) wlX4_3o imObj cdObj ⟨Nat.le_of_ble_eq_true rfl, Nat.le_of_ble_eq_true rfl⟩ dX4_init_1 rfl ?_
  refine J_aload_n (i := 0) (q := 0) (pc1 := 5) dX4_init_4 rfl rfl rfl ?_
  refine J_iload_n (i := 1) (q := 1) (pc1 := 6) dX4_init_5 rfl rfl rfl ?_
  refine J_putIF (T := TX4) (pc1 := 9) (by simp) rfl rfl inX4 tyX4 tyX4_ok nmX4 0 (by decide) rfl (fun row k v hk => by
    unfold rhK
    rw [upd_ne _ _ (show k ≠ 0 from fun z => by rw [z] at hk; exact absurd hk (by decide)), gh11]) flX4_9 rfl rfl hnm0 rfl rfl rfl dX4_init_6 rfl ?_
  have c0 : clE gkd_C (rhK nc) [(11, i)] (w3 μ 11 i 0 x) := fun f i9 k z hm hr hz9 => by
    obtain ⟨rfl, rfl⟩ := Prod.mk.inj (List.mem_singleton.mp hm)
    have hk0 : k ≠ 0 := fun z => by rw [z] at hr; exact absurd hr.1 (by decide)
    rw [rhK_no (by simp [w3, hk0, hz])] at hz9
    cases hz9
  refine J_aload_n (i := 0) (q := 0) (pc1 := 10) dX4_init_9 rfl rfl rfl ?_
  refine J_newOk (N := 12) (ci := 5) (f0 := 12) (i0 := i) (Cn := RX1) (T := TX1) (pc1 := 13) (by simp) rfl rfl inX1 tyX1 tyX1_ok (fun k hk => by match k, hk with | 0, _ => rfl | 1, _ => rfl | 2, _ => rfl | 3, _ => rfl | 4, _ => rfl | 5, _ => rfl | 6, _ => rfl | 7, _ => rfl | 8, _ => rfl | 9, _ => rfl | 10, _ => rfl | 11, _ => rfl) (clE_hrh c0 (by simp)) (fun k => rhK_no rfl) (by rw [w3_ne (by simp)]; exact hzN 12 i (by simp)) clX4_15 instX1 iniX1 (Nat.le_of_ble_eq_true rfl) (Nat.le_of_ble_eq_true rfl) dX4_init_10 rfl (fun q hq => ?_)
  have c1 : clE gkd_C (rhK nc) ([(11, i)] ++ [(12, i)]) (w3 μ 11 i 0 x) := clE_new c0 (fun k _ => rhK_no (by rw [w3_ne (by simp), hzN 12 i (by simp)]; rfl))
  have i1 : gI ([(11, i)] ++ [(12, i)]) (gAd ad 12 i q) := gI_snoc gI_one (by simp) hq
  rw [show (Value.ref q) = .ref (gAd ad 12 i q 12 i) from congrArg Value.ref gAd_at.symm]
  have a1 : gAd ad 12 i q 11 i = ad 11 i := gAd_ne (by simp)
  generalize gAd ad 12 i q = adA at *
  refine J_dup (pc1 := 14) dX4_init_13 rfl rfl ?_
  refine J_initC (pc1 := 17) (ce := 4) (sl := 84) i1 c1 (by simp) (fun f i9 h => by simp at h ⊢; omega) (clE_X1 (by rw [w3_ne (by simp)]; exact hzN 12 i (by simp))) (J_hI (st := [.ref (adA 12 i), .ref (ad 11 i)]) (As := []) (kX1_init l D tc sa (i0 := i) (by rw [w3_ne (by simp)]; exact hzN 12 i (by simp)) (fun f i9 h => by rw [w3_ne (by simp at h ⊢; omega)]; exact hzN f i9 (by simp at h ⊢; omega))) wiX4_17 rfl ⟨Nat.le_of_ble_eq_true rfl, Nat.le_of_ble_eq_true rfl⟩ ⟨Nat.le_of_ble_eq_true rfl, Nat.le_of_ble_eq_true rfl⟩ (Nat.le_of_ble_eq_true rfl) dX4_init_14) rfl rfl rfl (fun adB iB eB cB => ?_)
  rw [muN_id (fun f i9 h => by rw [w3_ne (fun z => h (Or.inl z)), w3_ne (fun z => h (Or.inl z)), w3_ne (fun z => h (Or.inl z))])] at cB ⊢
  rw [show (Value.ref (adA 12 i)) = .ref (adB 12 i) from congrArg Value.ref (eB 12 i (by simp)).symm, show (Value.ref (ad 11 i)) = .ref (adB 11 i) from congrArg Value.ref ((eB 11 i (by simp)).trans a1).symm]
  have a2 : adB 11 i = ad 11 i := (eB 11 i (by simp)).trans a1
  refine J_putRF (T := TX4) (f' := 12) (i' := i) (v := 1) (pc1 := 20) (by simp) rfl rfl inX4 tyX4 tyX4_ok nmX4 1 (by decide) rfl (fun row k _ => rhK_put (by simp) (fun r r' k h => gh11) (fun r _ => rfl) row k) flX4_18 rfl rfl hnm0 rfl rfl rfl dX4_init_17 rfl ?_
  have cC := clE_put (f := 11) (i := i) (k0 := 1) (v := 1) (z := (12, i)) cB (by simp) (fun k => rhK_put (by simp) (fun r r' k h => gh11) (fun r _ => rfl) _ k)
  refine J_aload_n (i := 0) (q := 0) (pc1 := 21) dX4_init_20 rfl rfl rfl ?_
  refine J_iconst (v := 5) (pc1 := 22) dX4_init_21 (by decide) rfl ?_
  have z13 : (w3 (w3 (w3 (w3 (w3 μ 11 i 0 x) 12 i 0 1) 12 i 1 1) 12 i 2 1) 11 i 1 1) 13 i = fun _ => 0 := by
    rw [w3_ne (by simp), w3_ne (by simp), w3_ne (by simp), w3_ne (by simp), w3_ne (by simp)]
    exact hzN 13 i (by simp)
  refine J_newIk (N := 5) (f0 := 13) (i0 := i) (pc1 := 24) (by simp) rfl (clE_hrh cC (by simp)) arI (by decide) (by decide) (by decide) (Nat.le_of_ble_eq_true rfl) (Nat.le_of_ble_eq_true rfl) z13 dX4_init_22 rfl (fun q13 hq13 => ?_)
  have n13 := clE_new (f0 := 13) (i0 := i) cC (fun k hk => (show False from hk).elim)
  have I13 := gI_snoc (f0 := 13) (i0 := i) iB (by simp) hq13
  rw [show (Value.ref q13) = .ref (gAd adB 13 i q13 13 i) from congrArg Value.ref gAd_at.symm, show (Value.ref (adB 11 i)) = .ref (gAd adB 13 i q13 11 i) from congrArg Value.ref (gAd_ne (by simp)).symm]
  have b13 : gAd adB 13 i q13 11 i = ad 11 i := (gAd_ne (by simp)).trans a2
  generalize gAd adB 13 i q13 = ad13 at *
  refine J_putRF (T := TX4) (f' := 13) (i' := i) (v := 1) (pc1 := 27) (by simp) rfl rfl inX4 tyX4 tyX4_ok nmX4 2 (by decide) rfl (fun row k _ => rhK_put (by simp) (fun r r' k h => gh11) (fun r _ => rfl) row k) flX4_22 rfl rfl hnm0 rfl rfl rfl dX4_init_24 rfl ?_
  have p13 := clE_put (f := 11) (i := i) (k0 := 2) (v := 1) (z := (13, i)) n13 (by simp) (fun k => rhK_put (by simp) (fun r r' k h => gh11) (fun r _ => rfl) _ k)
  refine J_aload_n (i := 0) (q := 0) (pc1 := 28) dX4_init_27 rfl rfl rfl ?_
  refine J_iconst (v := 5) (pc1 := 29) dX4_init_28 (by decide) rfl ?_
  have z14 : (w3 (w3 (w3 (w3 (w3 (w3 μ 11 i 0 x) 12 i 0 1) 12 i 1 1) 12 i 2 1) 11 i 1 1) 11 i 2 1) 14 i = fun _ => 0 := by
    rw [w3_ne (by simp), w3_ne (by simp), w3_ne (by simp), w3_ne (by simp), w3_ne (by simp), w3_ne (by simp)]
    exact hzN 14 i (by simp)
  refine J_newIk (N := 5) (f0 := 14) (i0 := i) (pc1 := 31) (by simp) rfl (clE_hrh p13 (by simp)) arI (by decide) (by decide) (by decide) (Nat.le_of_ble_eq_true rfl) (Nat.le_of_ble_eq_true rfl) z14 dX4_init_29 rfl (fun q14 hq14 => ?_)
  have n14 := clE_new (f0 := 14) (i0 := i) p13 (fun k hk => (show False from hk).elim)
  have I14 := gI_snoc (f0 := 14) (i0 := i) I13 (by simp) hq14
  rw [show (Value.ref q14) = .ref (gAd ad13 14 i q14 14 i) from congrArg Value.ref gAd_at.symm, show (Value.ref (ad13 11 i)) = .ref (gAd ad13 14 i q14 11 i) from congrArg Value.ref (gAd_ne (by simp)).symm]
  have b14 : gAd ad13 14 i q14 11 i = ad 11 i := (gAd_ne (by simp)).trans b13
  generalize gAd ad13 14 i q14 = ad14 at *
  refine J_putRF (T := TX4) (f' := 14) (i' := i) (v := 1) (pc1 := 34) (by simp) rfl rfl inX4 tyX4 tyX4_ok nmX4 3 (by decide) rfl (fun row k _ => rhK_put (by simp) (fun r r' k h => gh11) (fun r _ => rfl) row k) flX4_26 rfl rfl hnm0 rfl rfl rfl dX4_init_31 rfl ?_
  have p14 := clE_put (f := 11) (i := i) (k0 := 3) (v := 1) (z := (14, i)) n14 (by simp) (fun k => rhK_put (by simp) (fun r r' k h => gh11) (fun r _ => rfl) _ k)
  refine J_aload_n (i := 0) (q := 0) (pc1 := 35) dX4_init_34 rfl rfl rfl ?_
  refine J_iconst (v := 5) (pc1 := 36) dX4_init_35 (by decide) rfl ?_
  have z15 : (w3 (w3 (w3 (w3 (w3 (w3 (w3 μ 11 i 0 x) 12 i 0 1) 12 i 1 1) 12 i 2 1) 11 i 1 1) 11 i 2 1) 11 i 3 1) 15 i = fun _ => 0 := by
    rw [w3_ne (by simp), w3_ne (by simp), w3_ne (by simp), w3_ne (by simp), w3_ne (by simp), w3_ne (by simp), w3_ne (by simp)]
    exact hzN 15 i (by simp)
  refine J_newIk (N := 5) (f0 := 15) (i0 := i) (pc1 := 38) (by simp) rfl (clE_hrh p14 (by simp)) arI (by decide) (by decide) (by decide) (Nat.le_of_ble_eq_true rfl) (Nat.le_of_ble_eq_true rfl) z15 dX4_init_36 rfl (fun q15 hq15 => ?_)
  have n15 := clE_new (f0 := 15) (i0 := i) p14 (fun k hk => (show False from hk).elim)
  have I15 := gI_snoc (f0 := 15) (i0 := i) I14 (by simp) hq15
  rw [show (Value.ref q15) = .ref (gAd ad14 15 i q15 15 i) from congrArg Value.ref gAd_at.symm, show (Value.ref (ad14 11 i)) = .ref (gAd ad14 15 i q15 11 i) from congrArg Value.ref (gAd_ne (by simp)).symm]
  have b15 : gAd ad14 15 i q15 11 i = ad 11 i := (gAd_ne (by simp)).trans b14
  generalize gAd ad14 15 i q15 = ad15 at *
  refine J_putRF (T := TX4) (f' := 15) (i' := i) (v := 1) (pc1 := 41) (by simp) rfl rfl inX4 tyX4 tyX4_ok nmX4 4 (by decide) rfl (fun row k _ => rhK_put (by simp) (fun r r' k h => gh11) (fun r _ => rfl) row k) flX4_29 rfl rfl hnm0 rfl rfl rfl dX4_init_38 rfl ?_
  have p15 := clE_put (f := 11) (i := i) (k0 := 4) (v := 1) (z := (15, i)) n15 (by simp) (fun k => rhK_put (by simp) (fun r r' k h => gh11) (fun r _ => rfl) _ k)
  exact J_vretG hr hlk ⟨rfl, rfl, rfl, b15, rfl, rfl⟩ I15 (Nat.le_of_ble_eq_true rfl) (Nat.le_of_ble_eq_true rfl) dX4_init_41
end SD3
