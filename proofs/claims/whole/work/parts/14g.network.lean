/-! Network() -/
theorem wlX3_3o : Cond.methodLink RX3 3 Lib.objectInit ∈ BIG := bigT1 (i := 168) rfl rfl
theorem clX3_9 : Cond.classLink RX3 9 RX2 ∈ BIG := bigT1 (i := 169) rfl rfl
theorem instX2 : Cond.instantiable RX2 17 ∈ BIG := bigT1 (i := 171) rfl rfl
theorem wlX3_17 : Cond.methodLink RX3 17 yX2_init ∈ BIG := bigT1 (i := 172) rfl rfl
theorem imX2_init : Cond.instanceMethod yX2_init ∈ BIG := bigT1 (i := 173) rfl rfl
theorem cdX2_init : Cond.code yX2_init cX2_init 1 (none) ∈ BIG := bigT1 (i := 174) rfl rfl
theorem wiX3_17 : wCi RX3 17 yX2_init cX2_init 1 0 := ⟨⟨wlX3_17, imX2_init, iniX2, cdX2_init⟩, rfl, by decide +kernel⟩
section SD4
variable (l : Launch) (D : va_G) (tc : Nat → ClassId) (sa : Nat → Nat)
theorem X2_def : ∀ k, k < 17 → defaultValue (tyX2 k) = if ([0, 1, 2] : List Nat).contains k then .null else .int 0 := fun k hk => by
  match k, hk with
  | 0, _ => rfl
  | 1, _ => rfl
  | 2, _ => rfl
  | 3, _ => rfl
  | 4, _ => rfl
  | 5, _ => rfl
  | 6, _ => rfl
  | 7, _ => rfl
  | 8, _ => rfl
  | 9, _ => rfl
  | 10, _ => rfl
  | 11, _ => rfl
  | 12, _ => rfl
  | 13, _ => rfl
  | 14, _ => rfl
  | 15, _ => rfl
  | 16, _ => rfl
  | k + 17, hk => exact absurd hk (by omega)
theorem gn10 {nc i k : Nat} {r r' : Nat → Int32} (h : r k = r' k) : grh_C nc r 10 i k = grh_C nc r' 10 i k := by
  show some (19, (r k).toNatClampNeg) = some (19, (r' k).toNatClampNeg)
  rw [h]
theorem gn9 {nc i k : Nat} {r r' : Nat → Int32} (h : r k = r' k) : grh_C nc r 9 i k = grh_C nc r' 9 i k := by
  cases k with
  | zero => exact Eq.trans (b := some (10, i)) rfl rfl
  | succ k =>
    show some (19, (r (k + 1)).toNatClampNeg) = some (19, (r' (k + 1)).toNatClampNeg)
    rw [h]
theorem ids_ne1 {t : Nat} (h : t < 1000) : ¬ nI t = (if (10 : Nat) = 10 then -1 else 0) := fun z => by
  have h1 := congrArg Int32.toInt z
  rw [if_pos rfl, nI_toInt (by omega), show (-1 : Int32).toInt = -1 from ti_m1] at h1
  omega
theorem ids_ne0 {t : Nat} (h : t < 1000) (h0 : 0 < t) : ¬ nI t = (if (9 : Nat) = 10 then -1 else 0) := by
  rw [if_neg (by decide)]
  exact nI_ne0 h0 (by omega)
/-- a network's cells, with k messages made; its memory -/
def netT (q : Nat) : Nat → List (Nat × Nat)
  | 0 => [(10, q)]
  | k + 1 => (netT q k ++ [(19, 42 * q + k)]) ++ [(20, 42 * q + k), (21, 42 * q + k), (22, 42 * q + k)]
def netE (q k : Nat) : List (Nat × Nat) := (9, q) :: netT q k
def msgM (μ : gM) (t : Nat) : gM := w3 (w3 (w3 μ 19 t 0 1) 19 t 1 1) 19 t 2 1
def netM (μ : gM) (q : Nat) : Nat → gM
  | 0 => w3 μ 9 q 0 1
  | k + 1 => w3 (msgM (netM μ q k) (42 * q + k)) 10 q k (nI (42 * q + k))
def netT1 (q : Nat) : List (Nat × Nat) := (netT q 40 ++ [(19, 42 * q + 40)]) ++ [(20, 42 * q + 40), (21, 42 * q + 40), (22, 42 * q + 40)]
def netE1 (q : Nat) : List (Nat × Nat) := (9, q) :: netT1 q
def netM1 (μ : gM) (q : Nat) : gM := w3 (msgM (netM μ q 40) (42 * q + 40)) 9 q 1 (nI (42 * q + 40))
def netT2 (q : Nat) : List (Nat × Nat) := (netT1 q ++ [(19, 42 * q + 41)]) ++ [(20, 42 * q + 41), (21, 42 * q + 41), (22, 42 * q + 41)]
def netM2 (μ : gM) (q : Nat) : gM := w3 (msgM (netM1 μ q) (42 * q + 41)) 9 q 2 (nI (42 * q + 41))
theorem netT_in {q f i : Nat} : ∀ k, (f, i) ∈ netT q k → (f = 10 ∧ i = q) ∨ (19 ≤ f ∧ i < 42 * q + k)
  | 0, h => by
    obtain ⟨rfl, rfl⟩ := Prod.mk.inj (List.mem_singleton.mp h)
    exact Or.inl ⟨rfl, rfl⟩
  | k + 1, h => by
    rcases List.mem_append.mp h with h | h
    · rcases List.mem_append.mp h with h | h
      · rcases netT_in k h with h | h
        · exact Or.inl h
        · exact Or.inr ⟨h.1, by omega⟩
      · obtain ⟨rfl, rfl⟩ := Prod.mk.inj (List.mem_singleton.mp h)
        exact Or.inr ⟨by omega, by omega⟩
    · simp only [List.mem_cons, Prod.mk.injEq, List.not_mem_nil, or_false] at h
      exact Or.inr ⟨by omega, by omega⟩
theorem netE_no {q k f i : Nat} (hi : 42 * q + k ≤ i) (hf : 19 ≤ f) : (f, i) ∉ netE q k := fun h => by
  rcases List.mem_cons.mp h with h | h
  · have := (Prod.mk.inj h).1; omega
  · rcases netT_in k h with h | h <;> omega
theorem netE_10 {q : Nat} : ∀ {k : Nat}, (10, q) ∈ netE q k
  | 0 => List.mem_cons_of_mem _ List.mem_cons_self
  | k + 1 => by
    refine List.mem_cons_of_mem _ (List.mem_append_left _ (List.mem_append_left _ ?_))
    rcases List.mem_cons.mp (netE_10 (q := q) (k := k)) with h | h
    · have := (Prod.mk.inj h).1; omega
    · exact h
theorem msgM_ne {μ : gM} {t f i : Nat} (h : ¬ (f = 19 ∧ i = t)) : msgM μ t f i = μ f i := by
  unfold msgM
  rw [w3_ne h, w3_ne h, w3_ne h]
theorem netM_o {μ : gM} {q f i : Nat} (h9 : ¬ (f = 9 ∧ i = q)) (h10 : ¬ (f = 10 ∧ i = q)) : ∀ k, (f = 19 → 42 * q + k ≤ i) → netM μ q k f i = μ f i
  | 0, _ => w3_ne h9
  | k + 1, h => by
    show w3 (msgM (netM μ q k) (42 * q + k)) 10 q k _ f i = _
    rw [w3_ne h10, msgM_ne (fun z => by have := h z.1; omega), netM_o h9 h10 k (fun z => by have := h z; omega)]
theorem netM_z {μ : gM} {q k f i : Nat} (hz : ∀ f i, 19 ≤ f → f ≤ 22 → 42 * q ≤ i → μ f i = fun _ => 0) (hi : 42 * q + k ≤ i) (hf : 19 ≤ f ∧ f ≤ 22) : netM μ q k f i = fun _ => 0 := by
  rw [netM_o (by omega) (by omega) k (fun _ => hi)]
  exact hz f i hf.1 hf.2 (by omega)
theorem netM_9 {μ : gM} {q : Nat} : ∀ k j, netM μ q k 9 q j = if j = 0 then 1 else μ 9 q j
  | 0, j => by
    show w3 μ 9 q 0 1 9 q j = _
    unfold w3
    by_cases h : j = 0
    · rw [if_pos ⟨rfl, rfl, h⟩, if_pos h]
    · rw [if_neg (fun z => h z.2.2), if_neg h]
  | k + 1, j => by
    show w3 (msgM (netM μ q k) (42 * q + k)) 10 q k _ 9 q j = _
    rw [w3_ne (by omega), msgM_ne (by omega), netM_9 k j]
theorem netM_90 {μ : gM} {q k : Nat} : netM μ q k 9 q 0 = 1 := by rw [netM_9, if_pos rfl]
theorem netE1_no {q f : Nat} (hf : 19 ≤ f) : (f, 42 * q + 41) ∉ netE1 q := fun h => by
  rcases List.mem_cons.mp h with h | h
  · have := (Prod.mk.inj h).1; omega
  · rcases netT_in (k := 41) h with h | h <;> omega
theorem netM1_z {μ : gM} {q f : Nat} (hz : ∀ f i, 19 ≤ f → f ≤ 22 → 42 * q ≤ i → μ f i = fun _ => 0) (hf : 19 ≤ f ∧ f ≤ 22) : netM1 μ q f (42 * q + 41) = fun _ => 0 := by
  unfold netM1
  rw [w3_ne (by omega), msgM_ne (by omega), netM_o (by omega) (by omega) 40 (fun _ => by omega)]
  exact hz f _ hf.1 hf.2 (by omega)
theorem clE_X2 {nc i : Nat} {μ : gM} (hz : μ 19 i = fun _ => 0) : clE gkd_C (rhK nc) ((19, i) :: [(20, i), (21, i), (22, i)]) (w3 (w3 (w3 μ 19 i 0 1) 19 i 1 1) 19 i 2 1) := fun f i9 k z hm hr h9 => by
  simp only [List.mem_cons, Prod.mk.injEq, List.not_mem_nil, or_false] at hm
  rcases hm with ⟨rfl, e9⟩ | ⟨rfl, e9⟩ | ⟨rfl, e9⟩ | ⟨rfl, e9⟩
  · rw [e9] at h9
    have q9 : ([0, 1, 2] : List Nat).contains k = true := hr.1
    have q8 : k = 0 ∨ k = 1 ∨ k = 2 := by simpa using q9
    rcases q8 with rfl | rfl | rfl
    · rw [rhK_at (by simp [w3]), show grh_C nc _ 19 i 0 = some (20, i) from rfl] at h9
      cases h9; simp
    · rw [rhK_at (by simp [w3]), show grh_C nc _ 19 i 1 = some (21, i) from rfl] at h9
      cases h9; simp
    · rw [rhK_at (by simp [w3]), show grh_C nc _ 19 i 2 = some (22, i) from rfl] at h9
      cases h9; simp
  · exact (show False from hr).elim
  · exact (show False from hr).elim
  · exact (show False from hr).elim
theorem kX3_init {nc q : Nat} (hq2 : q < 2) {ad : Nat → Nat → Nat} {μ : gM} (hz9q : μ 9 q = fun _ => 0) (hz10 : μ 10 q = fun _ => -1) (hz : ∀ f i, 19 ≤ f → f ≤ 22 → 42 * q ≤ i → μ f i = fun _ => 0) : gMetG l yX3_init cX3_init 2 none ({ frames := 4, cells := 169, slots := 1258, locals := 160 } : Room) D [(9, q)] gkd_C tc ad (rhK nc) sa [.ref (ad 9 q)] μ (iPo gkd_C ad (rhK nc) 9 q (netT2 q) (netM2 μ q)) := by
  refine gMetGi_of gI_one ⟨by decide +kernel, Nat.le_of_ble_eq_true rfl⟩ (fun p e s m args below meth c sz hr hlk hnm0 => ?_)
  show J p l e ({ frames := 4, cells := 169, slots := 1258, locals := 160 } : Room) s m args below meth c cX3_init 2 RX3 D [(9, q)] gkd_C tc ad (rhK nc) sa (gA [(9, q)] ad sz) s.heap 0 0 (MQ below (gQG D tc [(9, q)] ad sz (iPo gkd_C ad (rhK nc) 9 q (netT2 q) (netM2 μ q))) args s 169 1258 (gA [(9, q)] ad sz)) μ 0 [(0, .ref (ad 9 q))] []
  have hK : ∀ adk : Nat → Nat → Nat, gI (netE q 40) adk → clE gkd_C (rhK nc) (netE q 40) (netM μ q 40) → adk 9 q = ad 9 q → J p l e ({ frames := 4, cells := 169, slots := 1258, locals := 160 } : Room) s m args below meth c cX3_init 2 RX3 D (netE q 40) gkd_C tc adk (rhK nc) sa (gA [(9, q)] ad sz) s.heap 161 1200 (MQ below (gQG D tc [(9, q)] ad sz (iPo gkd_C ad (rhK nc) 9 q (netT2 q) (netM2 μ q))) args s 169 1258 (gA [(9, q)] ad sz)) (netM μ q 40) 40 [(0, .ref (adk 9 q))] [] := by
    intro adk hI hcl h9
    refine J_aload_n (i := 0) (q := 0) (pc1 := 41) dX3_init_40 rfl rfl rfl ?_
    refine J_newOk (N := 17) (ci := 6) (f0 := 19) (i0 := 42 * q + 40) (Cn := RX2) (T := TX2) (pc1 := 44) (netE_no (Nat.le_refl _) (by decide)) rfl rfl inX2 tyX2 tyX2_ok X2_def (refs := [0, 1, 2]) (clE_hrh hcl (netE_no (Nat.le_refl _) (by decide))) (fun k => rhK_no rfl) (netM_z hz (Nat.le_refl _) (by decide)) clX3_9 instX2 iniX2 (by show 161 + 1 ≤ 169; omega) (by show 1200 + 17 ≤ 1258; omega) dX3_init_41 rfl (fun qD hqD => ?_)
    have cDa := clE_new (f0 := 19) (i0 := 42 * q + 40) hcl (fun k _ => rhK_no (by rw [(netM_z hz (Nat.le_refl _) (by decide))]; rfl))
    have iDa := gI_snoc (f0 := 19) (i0 := 42 * q + 40) hI (netE_no (Nat.le_refl _) (by decide)) hqD
    have eDa : ∀ f i, (f, i) ∈ (netE q 40) → gAd adk 19 (42 * q + 40) qD f i = adk f i := fun f i h => gAd_ne (fun z => (show (19, 42 * q + 40) ∉ (netE q 40) from (netE_no (Nat.le_refl _) (by decide))) (by rw [← z.1, ← z.2]; exact h))
    rw [show (Value.ref qD) = .ref (gAd adk 19 (42 * q + 40) qD 19 (42 * q + 40)) from congrArg Value.ref gAd_at.symm]
    generalize gAd adk 19 (42 * q + 40) qD = adDA at *
    refine J_dup (pc1 := 45) dX3_init_44 rfl rfl ?_
    refine J_initC (New := [(20, 42 * q + 40), (21, 42 * q + 40), (22, 42 * q + 40)]) (pc1 := 48) (ce := 165) (sl := 1229) iDa cDa (List.mem_append_right _ List.mem_cons_self) (fun f i9 h => by
      simp only [List.mem_cons, Prod.mk.injEq, List.not_mem_nil, or_false] at h
      rcases h with ⟨rfl, rfl⟩ | ⟨rfl, rfl⟩ | ⟨rfl, rfl⟩ <;> exact fun z => by
        rcases List.mem_append.mp z with z | z
        · exact netE_no (Nat.le_refl _) (by decide) z
        · exact absurd z (by simp)) (clE_X2 (netM_z hz (Nat.le_refl _) (by decide))) (J_hI (st := .ref (adDA 19 (42 * q + 40)) :: [.ref (adk 9 q)]) (As := []) (kX2_init l D tc sa (i0 := 42 * q + 40) (netM_z hz (Nat.le_refl _) (by decide)) (fun f i9 h => by
      simp only [List.mem_cons, Prod.mk.injEq, List.not_mem_nil, or_false] at h
      rcases h with ⟨rfl, rfl⟩ | ⟨rfl, rfl⟩ | ⟨rfl, rfl⟩ <;> exact netM_z hz (Nat.le_refl _) (by decide))) wiX3_17 rfl ⟨Nat.le_of_ble_eq_true rfl, Nat.le_of_ble_eq_true rfl⟩ ⟨by show 162 + 3 ≤ 169; omega, by show 1217 + 12 ≤ 1258; omega⟩ (Nat.le_of_ble_eq_true rfl) dX3_init_45) rfl (by show 162 + 3 = _; omega) (by show 1217 + 12 = _; omega) (fun adDB iDB eDB cDB => ?_)
    rw [muN_id (fun f i9 h => by rw [w3_ne (fun z => h (Or.inl z)), w3_ne (fun z => h (Or.inl z)), w3_ne (fun z => h (Or.inl z))])] at cDB ⊢
    have gD : adDB 9 q = adk 9 q := (eDB 9 q (List.mem_append_left _ List.mem_cons_self)).trans (eDa 9 q List.mem_cons_self)
    rw [show (Value.ref (adDA 19 (42 * q + 40))) = .ref (adDB 19 (42 * q + 40)) from congrArg Value.ref (eDB _ _ (List.mem_append_right _ List.mem_cons_self)).symm, show (Value.ref (adk 9 q)) = .ref (adDB 9 q) from congrArg Value.ref gD.symm]
    refine J_putR (T := TX3) (f' := 19) (i' := 42 * q + 40) (v := nI (42 * q + 40)) (pc1 := 51) List.mem_cons_self rfl rfl inX3 tyX3 tyX3_ok nmX3 1 (by decide) rfl (fun row k _ => rhK_put (ids_ne0 (by omega) (by omega)) (fun r r' k h => gn9 h) (fun r h => by show some (19, (r _).toNatClampNeg) = _; rw [h, nI_clamp (by omega)]) row k) flX3_18 rfl rfl rfl rfl dX3_init_48 rfl ?_
    have dD := clE_put (f := 9) (i := q) (k0 := 1) (v := nI (42 * q + 40)) (z := (19, 42 * q + 40)) cDB (List.mem_append_left _ (List.mem_append_right _ List.mem_cons_self)) (fun j => rhK_put (ids_ne0 (by omega) (by omega)) (fun r r' k h => gn9 h) (fun r h => by show some (19, (r _).toNatClampNeg) = _; rw [h, nI_clamp (by omega)]) _ j)
    rw [show w3 (w3 (w3 (w3 (netM μ q 40) 19 (42 * q + 40) 0 1) 19 (42 * q + 40) 1 1) 19 (42 * q + 40) 2 1) 9 q 1 (nI (42 * q + 40)) = netM1 μ q from rfl] at dD ⊢
    refine J_aload_n (i := 0) (q := 0) (pc1 := 52) dX3_init_51 rfl rfl rfl ?_
    refine J_newOk (N := 17) (ci := 6) (f0 := 19) (i0 := 42 * q + 41) (Cn := RX2) (T := TX2) (pc1 := 55) (netE1_no (by decide)) rfl rfl inX2 tyX2 tyX2_ok X2_def (refs := [0, 1, 2]) (clE_hrh dD (netE1_no (by decide))) (fun k => rhK_no rfl) (netM1_z hz (by decide)) clX3_9 instX2 iniX2 (by show 165 + 1 ≤ 169; omega) (by show 1229 + 17 ≤ 1258; omega) dX3_init_52 rfl (fun qT hqT => ?_)
    have cTa := clE_new (f0 := 19) (i0 := 42 * q + 41) dD (fun k _ => rhK_no (by rw [(netM1_z hz (by decide))]; rfl))
    have iTa := gI_snoc (f0 := 19) (i0 := 42 * q + 41) iDB (netE1_no (by decide)) hqT
    have eTa : ∀ f i, (f, i) ∈ (netE1 q) → gAd adDB 19 (42 * q + 41) qT f i = adDB f i := fun f i h => gAd_ne (fun z => (show (19, 42 * q + 41) ∉ (netE1 q) from (netE1_no (by decide))) (by rw [← z.1, ← z.2]; exact h))
    rw [show (Value.ref qT) = .ref (gAd adDB 19 (42 * q + 41) qT 19 (42 * q + 41)) from congrArg Value.ref gAd_at.symm]
    generalize gAd adDB 19 (42 * q + 41) qT = adTA at *
    refine J_dup (pc1 := 56) dX3_init_55 rfl rfl ?_
    refine J_initC (New := [(20, 42 * q + 41), (21, 42 * q + 41), (22, 42 * q + 41)]) (pc1 := 59) (ce := 169) (sl := 1258) iTa cTa (List.mem_append_right _ List.mem_cons_self) (fun f i9 h => by
      simp only [List.mem_cons, Prod.mk.injEq, List.not_mem_nil, or_false] at h
      rcases h with ⟨rfl, rfl⟩ | ⟨rfl, rfl⟩ | ⟨rfl, rfl⟩ <;> exact fun z => by
        rcases List.mem_append.mp z with z | z
        · exact netE1_no (by decide) z
        · exact absurd z (by simp)) (clE_X2 (netM1_z hz (by decide))) (J_hI (st := .ref (adTA 19 (42 * q + 41)) :: [.ref (adDB 9 q)]) (As := []) (kX2_init l D tc sa (i0 := 42 * q + 41) (netM1_z hz (by decide)) (fun f i9 h => by
      simp only [List.mem_cons, Prod.mk.injEq, List.not_mem_nil, or_false] at h
      rcases h with ⟨rfl, rfl⟩ | ⟨rfl, rfl⟩ | ⟨rfl, rfl⟩ <;> exact netM1_z hz (by decide))) wiX3_17 rfl ⟨Nat.le_of_ble_eq_true rfl, Nat.le_of_ble_eq_true rfl⟩ ⟨by show 166 + 3 ≤ 169; omega, by show 1246 + 12 ≤ 1258; omega⟩ (Nat.le_of_ble_eq_true rfl) dX3_init_56) rfl (by show 166 + 3 = _; omega) (by show 1246 + 12 = _; omega) (fun adTB iTB eTB cTB => ?_)
    rw [muN_id (fun f i9 h => by rw [w3_ne (fun z => h (Or.inl z)), w3_ne (fun z => h (Or.inl z)), w3_ne (fun z => h (Or.inl z))])] at cTB ⊢
    have gT : adTB 9 q = adDB 9 q := (eTB 9 q (List.mem_append_left _ List.mem_cons_self)).trans (eTa 9 q List.mem_cons_self)
    rw [show (Value.ref (adTA 19 (42 * q + 41))) = .ref (adTB 19 (42 * q + 41)) from congrArg Value.ref (eTB _ _ (List.mem_append_right _ List.mem_cons_self)).symm, show (Value.ref (adDB 9 q)) = .ref (adTB 9 q) from congrArg Value.ref gT.symm]
    refine J_putR (T := TX3) (f' := 19) (i' := 42 * q + 41) (v := nI (42 * q + 41)) (pc1 := 62) List.mem_cons_self rfl rfl inX3 tyX3 tyX3_ok nmX3 2 (by decide) rfl (fun row k _ => rhK_put (ids_ne0 (by omega) (by omega)) (fun r r' k h => gn9 h) (fun r h => by show some (19, (r _).toNatClampNeg) = _; rw [h, nI_clamp (by omega)]) row k) flX3_22 rfl rfl rfl rfl dX3_init_59 rfl ?_
    have dT := clE_put (f := 9) (i := q) (k0 := 2) (v := nI (42 * q + 41)) (z := (19, 42 * q + 41)) cTB (List.mem_append_left _ (List.mem_append_right _ List.mem_cons_self)) (fun j => rhK_put (ids_ne0 (by omega) (by omega)) (fun r r' k h => gn9 h) (fun r h => by show some (19, (r _).toNatClampNeg) = _; rw [h, nI_clamp (by omega)]) _ j)
    exact J_vretG hr hlk ⟨rfl, rfl, rfl, gT.trans (gD.trans h9), rfl, rfl⟩ iTB (Nat.le_of_ble_eq_true rfl) (Nat.le_of_ble_eq_true rfl) dX3_init_62
  have kl : ∀ (d k : Nat), k + d = 40 → ∀ adk : Nat → Nat → Nat, gI (netE q k) adk → clE gkd_C (rhK nc) (netE q k) (netM μ q k) → adk 9 q = ad 9 q → J p l e ({ frames := 4, cells := 169, slots := 1258, locals := 160 } : Room) s m args below meth c cX3_init 2 RX3 D (netE q k) gkd_C tc adk (rhK nc) sa (gA [(9, q)] ad sz) s.heap (1 + 4 * k) (40 + 29 * k) (MQ below (gQG D tc [(9, q)] ad sz (iPo gkd_C ad (rhK nc) 9 q (netT2 q) (netM2 μ q))) args s 169 1258 (gA [(9, q)] ad sz)) (netM μ q k) 15 [(1, .int (nI k)), (0, .ref (adk 9 q))] [] := by
    intro d
    induction d with
    | zero =>
      intro k hk adk hI hcl h9
      refine J_iload_n (i := 1) (q := 0) (pc1 := 16) dX3_init_15 rfl rfl rfl ?_
      refine J_bipush (v := 40) (pc1 := 18) dX3_init_16 (by decide) rfl ?_
      refine J_eqI (y := nI 40) (rfl) ?_
      refine J_icmp_ge (tgt := 40) (pc1 := 21) dX3_init_18 (by decide) (fun qq => ?_) rfl (fun qq => absurd (nI_le (by omega) (by omega)) qq)
      obtain rfl : k = 40 := by omega
      exact J_sub [1] rfl (hK adk hI hcl h9)
    | succ d ih =>
      intro k hk adk hI hcl h9
      refine J_iload_n (i := 1) (q := 0) (pc1 := 16) dX3_init_15 rfl rfl rfl ?_
      refine J_bipush (v := 40) (pc1 := 18) dX3_init_16 (by decide) rfl ?_
      refine J_eqI (y := nI 40) (rfl) ?_
      refine J_icmp_ge (tgt := 40) (pc1 := 21) dX3_init_18 (by decide) (fun qq => absurd qq (nI_ge (by omega) (by omega))) rfl (fun qq => ?_)
      refine J_aload_n (i := 0) (q := 1) (pc1 := 22) dX3_init_21 rfl rfl rfl ?_
      refine J_getR (T := TX3) (f' := 10) (i' := q) (pc1 := 25) List.mem_cons_self rfl rfl inX3 0 (by decide) rfl (by rw [rhK_at (by rw [netM_90]; decide)]; rfl) flX3_11 rfl dX3_init_22 rfl ?_
      refine J_iload_n (i := 1) (q := 0) (pc1 := 26) dX3_init_25 rfl rfl rfl ?_
      refine J_newOk (N := 17) (ci := 6) (f0 := 19) (i0 := 42 * q + k) (Cn := RX2) (T := TX2) (pc1 := 29) (netE_no (Nat.le_refl _) (by decide)) rfl rfl inX2 tyX2 tyX2_ok X2_def (refs := [0, 1, 2]) (clE_hrh hcl (netE_no (Nat.le_refl _) (by decide))) (fun k => rhK_no rfl) (netM_z hz (Nat.le_refl _) (by decide)) clX3_9 instX2 iniX2 (by show (1 + 4 * k) + 1 ≤ 169; omega) (by show (40 + 29 * k) + 17 ≤ 1258; omega) dX3_init_26 rfl (fun qM hqM => ?_)
      have cMa := clE_new (f0 := 19) (i0 := 42 * q + k) hcl (fun k _ => rhK_no (by rw [(netM_z hz (Nat.le_refl _) (by decide))]; rfl))
      have iMa := gI_snoc (f0 := 19) (i0 := 42 * q + k) hI (netE_no (Nat.le_refl _) (by decide)) hqM
      have eMa : ∀ f i, (f, i) ∈ (netE q k) → gAd adk 19 (42 * q + k) qM f i = adk f i := fun f i h => gAd_ne (fun z => (show (19, 42 * q + k) ∉ (netE q k) from (netE_no (Nat.le_refl _) (by decide))) (by rw [← z.1, ← z.2]; exact h))
      rw [show (Value.ref qM) = .ref (gAd adk 19 (42 * q + k) qM 19 (42 * q + k)) from congrArg Value.ref gAd_at.symm]
      generalize gAd adk 19 (42 * q + k) qM = adMA at *
      refine J_dup (pc1 := 30) dX3_init_29 rfl rfl ?_
      refine J_initC (New := [(20, 42 * q + k), (21, 42 * q + k), (22, 42 * q + k)]) (pc1 := 33) (ce := (1 + 4 * (k + 1))) (sl := (40 + 29 * (k + 1))) iMa cMa (List.mem_append_right _ List.mem_cons_self) (fun f i9 h => by
        simp only [List.mem_cons, Prod.mk.injEq, List.not_mem_nil, or_false] at h
        rcases h with ⟨rfl, rfl⟩ | ⟨rfl, rfl⟩ | ⟨rfl, rfl⟩ <;> exact fun z => by
          rcases List.mem_append.mp z with z | z
          · exact netE_no (Nat.le_refl _) (by decide) z
          · exact absurd z (by simp)) (clE_X2 (netM_z hz (Nat.le_refl _) (by decide))) (J_hI (st := .ref (adMA 19 (42 * q + k)) :: [.int (nI k), .ref (adk 10 q)]) (As := []) (kX2_init l D tc sa (i0 := 42 * q + k) (netM_z hz (Nat.le_refl _) (by decide)) (fun f i9 h => by
        simp only [List.mem_cons, Prod.mk.injEq, List.not_mem_nil, or_false] at h
        rcases h with ⟨rfl, rfl⟩ | ⟨rfl, rfl⟩ | ⟨rfl, rfl⟩ <;> exact netM_z hz (Nat.le_refl _) (by decide))) wiX3_17 rfl ⟨Nat.le_of_ble_eq_true rfl, Nat.le_of_ble_eq_true rfl⟩ ⟨by show (1 + 4 * k + 1) + 3 ≤ 169; omega, by show (40 + 29 * k + 17) + 12 ≤ 1258; omega⟩ (Nat.le_of_ble_eq_true rfl) dX3_init_30) rfl (by show (1 + 4 * k + 1) + 3 = _; omega) (by show (40 + 29 * k + 17) + 12 = _; omega) (fun adMB iMB eMB cMB => ?_)
      rw [muN_id (fun f i9 h => by rw [w3_ne (fun z => h (Or.inl z)), w3_ne (fun z => h (Or.inl z)), w3_ne (fun z => h (Or.inl z))])] at cMB ⊢
      have g9 : adMB 9 q = adk 9 q := (eMB 9 q (List.mem_append_left _ List.mem_cons_self)).trans (eMa 9 q List.mem_cons_self)
      have g10 : adMB 10 q = adk 10 q := (eMB 10 q (List.mem_append_left _ netE_10)).trans (eMa 10 q netE_10)
      rw [show (Value.ref (adMA 19 (42 * q + k))) = .ref (adMB 19 (42 * q + k)) from congrArg Value.ref (eMB _ _ (List.mem_append_right _ List.mem_cons_self)).symm, show (Value.ref (adk 10 q)) = .ref (adMB 10 q) from congrArg Value.ref g10.symm, show (Value.ref (adk 9 q)) = .ref (adMB 9 q) from congrArg Value.ref g9.symm]
      refine J_aast (f' := 19) (i' := 42 * q + k) (v := nI (42 * q + k)) (pc1 := 34) (List.mem_append_left _ (List.mem_append_left _ netE_10)) rfl rfl (List.mem_append_left _ (List.mem_append_right _ List.mem_cons_self)) rfl rfl (vp_in_nI (by omega) (by decide)) (fun row j => rhK_put (ids_ne1 (by omega)) (fun r r' k h => gn10 h) (fun r h => by show some (19, (r _).toNatClampNeg) = _; rw [h, nI_clamp (by omega)]) row j) dX3_init_33 rfl ?_
      have cN := clE_put (f := 10) (i := q) (k0 := (nI k).toNatClampNeg) (v := nI (42 * q + k)) (z := (19, 42 * q + k)) cMB (List.mem_append_left _ (List.mem_append_right _ List.mem_cons_self)) (fun j => rhK_put (ids_ne1 (by omega)) (fun r r' k h => gn10 h) (fun r h => by show some (19, (r _).toNatClampNeg) = _; rw [h, nI_clamp (by omega)]) _ j)
      rw [nI_clamp (by omega)] at cN ⊢
      refine J_iinc (q := 0) (v := nI (k + 1)) (lv1 := [(1, .int (nI (k + 1))), (0, .ref (adMB 9 q))]) (pc1 := 37) dX3_init_34 rfl (nI_1 k) (by decide) rfl rfl ?_
      refine J_goto (tgt := 15) dX3_init_37 (by decide) ?_
      exact ih (k + 1) (by omega) adMB iMB cN (g9.trans h9)
  refine J_aload_n (i := 0) (q := 0) (pc1 := 1) dX3_init_0 rfl rfl rfl ?_
  refine J_objInit (pc1 := 4) wlX3_3o imObj cdObj ⟨Nat.le_of_ble_eq_true rfl, Nat.le_of_ble_eq_true rfl⟩ dX3_init_1 rfl ?_
  refine J_aload_n (i := 0) (q := 0) (pc1 := 5) dX3_init_4 rfl rfl rfl ?_
  refine J_bipush (v := 40) (pc1 := 7) dX3_init_5 (by decide) rfl ?_
  have c0 : clE gkd_C (rhK nc) [(9, q)] μ := fun f i9 k z hm hr hz9 => by
    obtain ⟨rfl, rfl⟩ := Prod.mk.inj (List.mem_singleton.mp hm)
    rw [rhK_no (by rw [hz9q]; rfl)] at hz9
    cases hz9
  refine J_newQ3k (N := 40) (f0 := 10) (i0 := q) (pc1 := 10) (by simp) rfl (clE_hrh c0 (by simp)) (fun k => rhK_no (by rw [hz10]; rfl)) clX3_9 (by decide) (by decide) (by decide) (Nat.le_of_ble_eq_true rfl) (Nat.le_of_ble_eq_true rfl) dX3_init_7 rfl (fun qa hqa => ?_)
  have c1 : clE gkd_C (rhK nc) ([(9, q)] ++ [(10, q)]) μ := clE_new c0 (fun k _ => rhK_no (by rw [hz10]; rfl))
  have i1 : gI ([(9, q)] ++ [(10, q)]) (gAd ad 10 q qa) := gI_snoc gI_one (by simp) hqa
  have a1 : gAd ad 10 q qa 9 q = ad 9 q := gAd_ne (by simp)
  rw [show (Value.ref qa) = .ref (gAd ad 10 q qa 10 q) from congrArg Value.ref gAd_at.symm, show (Value.ref (ad 9 q)) = .ref (gAd ad 10 q qa 9 q) from congrArg Value.ref a1.symm]
  generalize gAd ad 10 q qa = adA at *
  refine J_putRF (T := TX3) (f' := 10) (i' := q) (v := 1) (pc1 := 13) List.mem_cons_self rfl rfl inX3 tyX3 tyX3_ok nmX3 0 (by decide) rfl (fun row k _ => rhK_put (by simp) (fun r r' k h => gn9 h) (fun r _ => rfl) row k) flX3_11 rfl rfl hnm0 rfl rfl rfl dX3_init_10 rfl ?_
  have c2 := clE_put (f := 9) (i := q) (k0 := 0) (v := 1) (z := (10, q)) c1 (by simp) (fun j => rhK_put (by simp) (fun r r' k h => gn9 h) (fun r _ => rfl) _ j)
  refine J_iconst (v := 0) (pc1 := 14) dX3_init_13 (by decide) rfl ?_
  refine J_eqI (y := nI 0) (rfl) ?_
  refine J_istore_n (i := 1) (lv1 := [(1, .int (nI 0)), (0, .ref (adA 9 q))]) (pc1 := 15) dX3_init_14 rfl (by decide) rfl rfl ?_
  exact kl 40 0 rfl adA i1 c2 a1
end SD4
