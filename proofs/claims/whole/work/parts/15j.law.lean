/-! the law's beginning, its loop -/
theorem clL_8 : Cond.classLink RL 8 RX6 ∈ BIG := bigT1 (i := 32) rfl rfl
theorem clL_105 : Cond.classLink RL 105 RX7 ∈ BIG := bigT7 (i := 32) rfl rfl
theorem instX6 : Cond.instantiable RX6 4 ∈ BIG := bigT1 (i := 33) rfl rfl
theorem instX7 : Cond.instantiable RX7 14 ∈ BIG := bigT7 (i := 33) rfl rfl
theorem arJ : Cond.arrayClass .long ∈ BIG := bigT8 (i := 218) rfl rfl
theorem arD : Cond.arrayClass .double ∈ BIG := bigT8 (i := 219) rfl rfl
theorem wlL_104 : Cond.methodLink RL 104 yX6_init ∈ BIG := bigT1 (i := 34) rfl rfl
theorem imX6_init : Cond.instanceMethod yX6_init ∈ BIG := bigT1 (i := 35) rfl rfl
theorem cdX6_init : Cond.code yX6_init cX6_init 1 (none) ∈ BIG := bigT1 (i := 36) rfl rfl
theorem wiL_104 : wCi RL 104 yX6_init cX6_init 1 0 := ⟨⟨wlL_104, imX6_init, iniX6, cdX6_init⟩, rfl, by decide +kernel⟩
theorem wlL_107 : Cond.methodLink RL 107 yX7_init ∈ BIG := bigT7 (i := 34) rfl rfl
theorem imX7_init : Cond.instanceMethod yX7_init ∈ BIG := bigT7 (i := 35) rfl rfl
theorem cdX7_init : Cond.code yX7_init cX7_init 1 (none) ∈ BIG := bigT7 (i := 36) rfl rfl
theorem wiL_107 : wCi RL 107 yX7_init cX7_init 1 0 := ⟨⟨wlL_107, imX7_init, iniX7, cdX7_init⟩, rfl, by decide +kernel⟩
theorem X6_def : ∀ k, k < 4 → defaultValue (tyX6 k) = if ([0, 1, 2, 3] : List Nat).contains k then .null else .int 0 := fun k hk => by
  match k, hk with
  | 0, _ => rfl
  | 1, _ => rfl
  | 2, _ => rfl
  | 3, _ => rfl
  | k + 4, hk => exact absurd hk (by omega)
theorem X7_def : ∀ k, k < 14 → defaultValue (tyX7 k) = if ([1, 2, 4, 5, 12] : List Nat).contains k then .null else .int 0 := fun k hk => by
  match k, hk with
  | 0, _ => rfl
  | 1, _ => rfl
  | 2, _ => rfl
  | 3, _ => rfl
  | 4, _ => rfl
  | 5, _ => rfl
  | 6, _ => rfl
  | 7, _ => rfl
  | 8, _ => rfl
  | 9, _ => rfl
  | 10, _ => rfl
  | 11, _ => rfl
  | 12, _ => rfl
  | 13, _ => rfl
  | k + 14, hk => exact absurd hk (by omega)
theorem rSt.step {n : Nat} {S : sqSt} {sv : Option sqSt} {β : Nat → Int32} {len : Nat} {T : List Nat} {μ : gM} (h : rSt n S sv β len T μ) (hn : n ≤ 600) : rSt (n + 1) S sv β len T μ := ⟨RZ.nx h.1 (by omega) hn, rSv.cg h.2.1 rfl rfl hn, h.2.2.1, h.2.2.2⟩
def rPq (ad : Nat → Nat → Nat) : gPo := fun o1 E1 kd1 ad1 rh1 μ1 => o1 = none ∧ E1 = gE_R ∧ kd1 = gkd_R ∧ ad1 0 0 = ad 0 0 ∧ rh1 = rhQ ∧ RA (μ1 1 0) (zBegin 7 0) ∧ ∀ k, ¬ (k = 1 ∨ k = 2 ∨ k = 4 ∨ k = 5 ∨ k = 12) → μ1 0 0 k = 0
theorem kX7_initQ {l : Launch} {D : va_G} {tc : Nat → ClassId} {sa : Nat → Nat} {ad : Nat → Nat → Nat} : gMetG l yX7_init cX7_init 1 none ({ frames := 4, cells := 5, slots := 4037, locals := 160 } : Room) D [(0, 0)] gkd_R tc ad (fun _ _ _ _ => none) sa [.ref (ad 0 0)] (fun _ _ _ => 0) (rPq ad) := by
  intro sz
  have ew : g_w [(0, 0)] gkd_R tc ad (fun _ _ _ _ => none) (fun _ _ _ => 0) = g_w [(0, 0)] gkd_R tc ad rhR (fun _ _ _ => 0) := by
    unfold g_w
    refine List.map_congr_left (fun x hx => ?_)
    have e : g_e gkd_R tc ad (fun _ _ _ _ => none) (fun _ => 0) x.1 x.2 = g_e gkd_R tc ad rhR (fun _ => 0) x.1 x.2 := g_e_cg (fun k _ => by rw [rhR_no rfl])
    rw [e]
  refine MetFree.mono (kX7_init l D tc sa (ad := ad) (μ := fun _ _ _ => 0) rfl (fun _ _ => rfl) sz) (fun a s0 q => ⟨q.1, q.2.1, by rw [← ew]; exact q.2.2.1, q.2.2.2⟩) (fun _ _ _ _ _ q => q) (fun a st oc t _ h2 => ⟨?_, h2.2⟩)
  obtain ⟨⟨o, E1, kd1, ad1, rh1, μ1, h3, ⟨rfl, rfl, rfl, h00, rfl, hR, hz⟩, h4, h5, h6, h7⟩, -⟩ := h2
  exact ⟨_, _, _, ad1, rhQ, μ1, h3, ⟨rfl, rfl, rfl, h00, rfl, hR, hz⟩, h4, h5, by rw [g_w_Q]; exact h6, h7⟩
section LwL
variable {p : Program} {l : Launch} {e : Env} {s : State} {m : MethodId} {below : List Frame} {meth : Method} {c : Code} {D : va_G} {tc : Nat → ClassId} {sa : Nat → Nat} {b L : Nat} {Q : State → Prop} {xs : Nat → Int32}
theorem J_arrays {D : va_G} {E : List (Nat × Nat)} {kd : Nat → gKd} {ad : Nat → Nat → Nat} {rh : gRh} {μ : gM} {A : Nat → Prop} {cells slots : Nat} {lv : List (Nat × Value)} (hl3 : lv.filter (fun q => !(q.1 == 3) && !(q.1 + 1 == 3 && q.2.category == 2)) = lv) (hl4 : lv.filter (fun q => !(q.1 == 4) && !(q.1 + 1 == 4 && q.2.category == 2)) = lv) (hc : cells + 2 ≤ 603072) (hs : slots + 2 ≤ 7219305) (k : ∀ (cJ cD : ClassId) (x1 x2 : Nat), JX cJ cD x1 x2 0 0 p l e room_1 s m #[Value.ref b] below meth c cL_law 9 RL D E kd tc ad rh sa A s.heap (cells + 2) (slots + 2) Q μ 25 ((4, .ref x2) :: (3, .ref x1) :: lv) []) : J p l e room_1 s m #[Value.ref b] below meth c cL_law 9 RL D E kd tc ad rh sa A s.heap cells slots Q μ 17 lv [.int 1] := fun H locs ls C hP hS hl => by
  have hwd : ∀ w ∈ BIG, w.before #[Value.ref b] s = true := C.2.2.2.2.1
  refine va_newa C.1 C.2.1 (atype := .long) (hwd _ arJ) (ty := .long) rfl C.2.2.2.2.2.1.1 hP (C.2.2.2.2.2.2.1 μ) hS C.2.2.2.2.2.2.2 (a0 := (1, .inr (.inl (fun _ => 0)))) (fun _ => rfl) (by decide) rfl (by decide) (by show cells + 1 ≤ 603072; omega) (by show slots + 1 ≤ 7219305; omega) dL_law_17 (fun x1 cJ H1 hK1 hP1 hD1 hS1 => ?_)
  refine lv_astore_n (lv' := (3, .ref x1) :: lv) C.1 C.2.1 dL_law_19 rfl hl (by decide) (congrArg (fun z => (3, Value.ref x1) :: z) hl3) (fun ls1 h1 => ?_)
  refine lv_iconst (v := 1) C.1 C.2.1 dL_law_20 (by decide) ?_
  refine va_newa C.1 C.2.1 (atype := .double) (hwd _ arD) (ty := .double) rfl hK1 hP1 hD1 hS1 C.2.2.2.2.2.2.2 (a0 := (1, .inr (.inr (.inr (.inl (fun _ => 0)))))) (fun _ => rfl) (by decide) rfl (by decide) (by show cells + 1 + 1 ≤ 603072; omega) (by show slots + 1 + 1 ≤ 7219305; omega) dL_law_21 (fun x2 cD H2 hK2 hP2 hD2 hS2 => ?_)
  refine lv_astore (lv' := (4, .ref x2) :: (3, .ref x1) :: lv) C.1 C.2.1 dL_law_23 h1 (by decide) (congrArg (fun z => (4, Value.ref x2) :: z) ((List.filter_cons_of_pos rfl).trans (congrArg (fun z => (3, Value.ref x1) :: z) hl4))) (fun ls2 h2 => ?_)
  have m1 : (g_w E kd tc ad rh μ ++ [(x1, (.inl (cJ, 1, .inr (.inl (fun _ => 0))) : va_E))]) ++ [(x2, (.inl (cD, 1, .inr (.inr (.inr (.inl (fun _ => 0))))) : va_E))] = g_w E kd tc ad rh μ ++ [(x1, (.inl (cJ, 1, .inr (.inl (fun _ => 0))) : va_E)), (x2, (.inl (cD, 1, .inr (.inr (.inr (.inl (fun _ => 0))))) : va_E))] := by simp
  rw [m1] at hP2 hD2
  have n0 : (g_w E kd tc ad rh μ).length = E.length := by simp [g_w]
  have e1 : (g_w E kd tc ad rh μ ++ [(x1, (.inl (cJ, 1, .inr (.inl (fun _ => 0))) : va_E)), (x2, (.inl (cD, 1, .inr (.inr (.inr (.inl (fun _ => 0))))) : va_E))])[E.length]? = some (x1, .inl (cJ, 1, .inr (.inl (fun _ => 0)))) := by
    rw [List.getElem?_append_right (by omega), n0, Nat.sub_self]; rfl
  have e2 : (g_w E kd tc ad rh μ ++ [(x1, (.inl (cJ, 1, .inr (.inl (fun _ => 0))) : va_E)), (x2, (.inl (cD, 1, .inr (.inr (.inr (.inl (fun _ => 0))))) : va_E))])[E.length + 1]? = some (x2, .inl (cD, 1, .inr (.inr (.inr (.inl (fun _ => 0)))))) := by
    rw [List.getElem?_append_right (by omega), n0, show E.length + 1 - E.length = 1 by omega]; rfl
  exact k cJ cD x1 x2 H2 locs ls2 C (va_P_l hP2) ⟨hK2, va_P_r hP2, fun z => by have := hD2.1 _ _ _ _ e1 e2 z; omega, hD2.2 _ _ e1, hD2.2 _ _ e2, fun f i hf => by
    obtain ⟨k1, hk1, h4⟩ := g_at (kd := kd) (tc := tc) (ad := ad) (rh := rh) (μ := μ) hf
    have hlt : k1 < E.length := (List.getElem?_eq_some_iff.mp hk1).1
    have h5 := (List.getElem?_append_left (l₂ := [(x1, (.inl (cJ, 1, .inr (.inl (fun _ => 0))) : va_E)), (x2, (.inl (cD, 1, .inr (.inr (.inr (.inl (fun _ => 0))))) : va_E))]) (show k1 < (g_w E kd tc ad rh μ).length by omega)).trans h4
    exact ⟨fun z => by have := hD2.1 _ _ _ _ h5 e1 z; omega, fun z => by have := hD2.1 _ _ _ _ h5 e2 z; omega⟩⟩ hS2 h2
variable {cJ cD : ClassId} {x1 x2 a0 : Nat} {adr : Nat → Nat → Nat}
theorem lw_loop (hlz : l.stackTraces = false) (hx : va_X b L xs s s.heap) (hbl : b < s.heap.size) (hL2 : L ≤ 2048) (hEnd : ∀ (n : Nat) (E : List (Nat × Nat)) (kd : Nat → gKd) (ad : Nat → Nat → Nat) (rh : gRh) (μr μc : gM) (v8 : Int64) (d8 : UInt64), n ≤ 512 → JL p l e s m below meth c D tc sa cJ cD x1 x2 adr b Q E kd ad rh μr μc v8 d8 (1000 + 300 * n) (10000 + 5000 * n) 1754 [(5, .int (nI (4 * n))), (4, .ref x2), (3, .ref x1), (2, .ref (adr 0 0)), (1, .ref a0), (0, .ref b)] []) : ∀ (k n : Nat), L ≤ 4 * (n + k) + 3 → n ≤ 512 → ∀ (S : sqSt) (sv : Option sqSt) (β : Nat → Int32) (len : Nat) (T : List Nat) (E : List (Nat × Nat)) (kd : Nat → gKd) (ad : Nat → Nat → Nat) (rh : gRh) (μr μc : gM) (v8 : Int64) (d8 : UInt64), cSt a0 S sv β len T E kd ad rh μc → rSt n S sv β len T μr → lJ n S sv → gI (mxE gE_R E) (mxA adr ad) → JL p l e s m below meth c D tc sa cJ cD x1 x2 adr b Q E kd ad rh μr μc v8 d8 (1000 + 300 * n) (10000 + 5000 * n) 28 [(5, .int (nI (4 * n))), (4, .ref x2), (3, .ref x1), (2, .ref (adr 0 0)), (1, .ref a0), (0, .ref b)] [] := by
  have hcmp : ∀ n : Nat, n ≤ 512 → ((nI L - 4) < nI (4 * n) ↔ L < 4 * n + 4) := fun n hn => by
    rw [Int32.lt_iff_toInt_lt, ti_sub (a := (L : Int)) (b := 4) (nI_toInt (by omega)) (by decide), nI_toInt (by omega)]
    omega
  intro k
  induction k with
  | zero =>
    intro n hk hn S sv β len T E kd ad rh μr μc v8 d8 hS hr hZ hI
    refine JX_iload (i := 5) (q := 0) (pc1 := 30) dL_law_28 rfl rfl ?_
    refine JX_aload_n (i := 0) (q := 5) (pc1 := 31) dL_law_30 rfl rfl rfl ?_
    refine JX_slen (pc1 := 32) hx hbl (Nat.not_le.mpr hbl) dL_law_31 rfl ?_
    refine JX_iconst (v := 4) (pc1 := 33) dL_law_32 (by decide) rfl ?_
    refine JX_isub (pc1 := 34) dL_law_33 rfl ?_
    refine JX_icmp_gt (tgt := 1754) (pc1 := 37) dL_law_34 (by decide) (fun qq => ?_) rfl (fun qq => absurd ((hcmp n hn).mpr (by omega)) qq)
    exact hEnd n E kd ad rh μr μc v8 d8 hn
  | succ k ih =>
    intro n hk hn S sv β len T E kd ad rh μr μc v8 d8 hS hr hZ hI
    refine JX_iload (i := 5) (q := 0) (pc1 := 30) dL_law_28 rfl rfl ?_
    refine JX_aload_n (i := 0) (q := 5) (pc1 := 31) dL_law_30 rfl rfl rfl ?_
    refine JX_slen (pc1 := 32) hx hbl (Nat.not_le.mpr hbl) dL_law_31 rfl ?_
    refine JX_iconst (v := 4) (pc1 := 33) dL_law_32 (by decide) rfl ?_
    refine JX_isub (pc1 := 34) dL_law_33 rfl ?_
    refine JX_icmp_gt (tgt := 1754) (pc1 := 37) dL_law_34 (by decide) (fun qq => ?_) rfl (fun qq => ?_)
    · exact hEnd n E kd ad rh μr μc v8 d8 hn
    · have hlt : 4 * n + 4 ≤ L := by
        have h9 : ¬ L < 4 * n + 4 := fun z => qq ((hcmp n hn).mpr z)
        omega
      have hN : lwN p l e s m below meth c D tc sa cJ cD x1 x2 adr b Q a0 (n + 1) (4 * n) := fun S sv β len T E kd ad rh μr μc v8 d8 hS hr hZ hI =>
        JX_iinc (q := 0) (v := nI (4 * (n + 1))) (lv1 := [(5, .int (nI (4 * (n + 1)))), (4, .ref x2), (3, .ref x1), (2, .ref (adr 0 0)), (1, .ref a0), (0, .ref b)]) (pc1 := 1751) dL_law_1748 rfl (by rw [show 4 * (n + 1) = 4 * n + 4 by omega]; exact nI_add (4 * n) 4) (by decide) rfl rfl (JX_goto (tgt := 28) dL_law_1751 (by decide) (ih (n + 1) (by omega) (by omega) S sv β len T E kd ad rh μr μc v8 d8 hS hr hZ hI))
      refine JX_aload_n (i := 0) (q := 5) (pc1 := 38) dL_law_37 rfl rfl rfl ?_
      refine JX_iload (i := 5) (q := 0) (pc1 := 40) dL_law_38 rfl rfl ?_
      refine JX_sld (x := xs (4 * n)) (pc1 := 41) hx hbl (Nat.not_le.mpr hbl) (vp_in_nI (by omega) (by omega)) (by rw [nI_clamp (by omega)]) dL_law_40 rfl ?_
      refine JX_bipush (v := 31) (pc1 := 43) dL_law_41 (by decide) rfl ?_
      refine JX_iand (pc1 := 44) dL_law_43 rfl ?_
      obtain ⟨w9, hw9⟩ : ∃ w9, w9 = xs (4 * n) &&& 31 := ⟨_, rfl⟩
      by_cases hc : 0 ≤ w9.toInt ∧ w9.toInt ≤ 26
      · obtain ⟨c9, hc1, hc9⟩ : ∃ c9 : Nat, c9 < 27 ∧ w9 = nI c9 := ⟨w9.toInt.toNat, by omega, Int32.toInt_inj.mp (by rw [nI_toInt (by omega)]; omega)⟩
        rw [← hw9]
        rcases (show c9 = 0 ∨ c9 = 1 ∨ c9 = 2 ∨ c9 = 3 ∨ c9 = 4 ∨ c9 = 5 ∨ c9 = 6 ∨ c9 = 7 ∨ c9 = 8 ∨ c9 = 9 ∨ c9 = 10 ∨ c9 = 11 ∨ c9 = 12 ∨ c9 = 13 ∨ c9 = 14 ∨ c9 = 15 ∨ c9 = 16 ∨ c9 = 17 ∨ c9 = 18 ∨ c9 = 19 ∨ c9 = 20 ∨ c9 = 21 ∨ c9 = 22 ∨ c9 = 23 ∨ c9 = 24 ∨ c9 = 25 ∨ c9 = 26 by omega) with rfl | rfl | rfl | rfl | rfl | rfl | rfl | rfl | rfl | rfl | rfl | rfl | rfl | rfl | rfl | rfl | rfl | rfl | rfl | rfl | rfl | rfl | rfl | rfl | rfl | rfl | rfl
        · exact JX_swIn (v := nI 0) (off := 124) (tgt := 168) dL_law_44 hc9 (by decide) (lwC_start hlz hx hbl hlt hL2 hI hS hr hZ hN)
        · exact JX_swIn (v := nI 1) (off := 192) (tgt := 236) dL_law_44 hc9 (by decide) (lwC_tick hlz hx hbl hlt hL2 hI hS hr hZ hN)
        · exact JX_swIn (v := nI 2) (off := 248) (tgt := 292) dL_law_44 hc9 (by decide) (lwC_setDelay hlz hx hbl hlt hL2 hI hS hr hZ hN)
        · exact JX_swIn (v := nI 3) (off := 304) (tgt := 348) dL_law_44 hc9 (by decide) (lwC_setLink hlz hx hbl hlt hL2 hI hS hr hZ hN)
        · exact JX_swIn (v := nI 4) (off := 407) (tgt := 451) dL_law_44 hc9 (by decide) (lwC_crash hlz hx hbl hlt hL2 hI hS hr hZ hN)
        · exact JX_swIn (v := nI 5) (off := 463) (tgt := 507) dL_law_44 hc9 (by decide) (lwC_restart hlz hx hbl hlt hL2 hI hS hr hZ hN)
        · exact JX_swIn (v := nI 6) (off := 519) (tgt := 563) dL_law_44 hc9 (by decide) (lwC_submit hlz hx hbl hlt hL2 hI hS hr hZ hN)
        · exact JX_swIn (v := nI 7) (off := 587) (tgt := 631) dL_law_44 hc9 (by decide) (lwC_reconfigure hlz hx hbl hlt hL2 hI hS hr hZ hN)
        · exact JX_swIn (v := nI 8) (off := 655) (tgt := 699) dL_law_44 hc9 (by decide) (lwC_pack hlz hx hbl hlt hL2 hI hS hr hZ hN)
        · exact JX_swIn (v := nI 9) (off := 711) (tgt := 755) dL_law_44 hc9 (by decide) (lwC_read hlz hx hbl hlt hL2 hI hS hr hZ hN)
        · exact JX_swIn (v := nI 10) (off := 767) (tgt := 811) dL_law_44 hc9 (by decide) (lwC_node hlz hx hbl hlt hL2 hI hS hr hZ hN)
        · exact JX_swIn (v := nI 11) (off := 835) (tgt := 879) dL_law_44 hc9 (by decide) (lwC_noted hlz hx hbl hlt hL2 hI hS hr hZ hN)
        · exact JX_swIn (v := nI 12) (off := 915) (tgt := 959) dL_law_44 hc9 (by decide) (lwC_entry hlz hx hbl hlt hL2 hI hS hr hZ hN)
        · exact JX_swIn (v := nI 13) (off := 995) (tgt := 1039) dL_law_44 hc9 (by decide) (lwC_messages hlz hx hbl hlt hL2 hI hS hr hZ hN)
        · exact JX_swIn (v := nI 14) (off := 1008) (tgt := 1052) dL_law_44 hc9 (by decide) (lwC_message hlz hx hbl hlt hL2 hI hS hr hZ hN)
        · exact JX_swIn (v := nI 15) (off := 1076) (tgt := 1120) dL_law_44 hc9 (by decide) (lwC_lose hlz hx hbl hlt hL2 hI hS hr hZ hN)
        · exact JX_swIn (v := nI 16) (off := 1132) (tgt := 1176) dL_law_44 hc9 (by decide) (lwC_leader hlz hx hbl hlt hL2 hI hS hr hZ hN)
        · exact JX_swIn (v := nI 17) (off := 1176) (tgt := 1220) dL_law_44 hc9 (by decide) (lwC_winner hlz hx hbl hlt hL2 hI hS hr hZ hN)
        · exact JX_swIn (v := nI 18) (off := 1232) (tgt := 1276) dL_law_44 hc9 (by decide) (lwC_alike hlz hx hbl hlt hL2 hI hS hr hZ hN)
        · exact JX_swIn (v := nI 19) (off := 1300) (tgt := 1344) dL_law_44 hc9 (by decide) (lwC_statistic hlz hx hbl hlt hL2 hI hS hr hZ hN)
        · exact JX_swIn (v := nI 20) (off := 1356) (tgt := 1400) dL_law_44 hc9 (by decide) (lwC_share hlz hx hbl hlt hL2 hI hS hr hZ hN)
        · exact JX_swIn (v := nI 21) (off := 1433) (tgt := 1477) dL_law_44 hc9 (by decide) (lwC_feed hlz hx hbl hlt hL2 hI hS hr hZ hN)
        · exact JX_swIn (v := nI 22) (off := 1491) (tgt := 1535) dL_law_44 hc9 (by decide) (lwC_perform hlz hx hbl hlt hL2 hI hS hr hZ hN)
        · exact JX_swIn (v := nI 23) (off := 1535) (tgt := 1579) dL_law_44 hc9 (by decide) (lwC_write hlz hx hbl hlt hL2 hI hS hr hZ hN)
        · exact JX_swIn (v := nI 24) (off := 1591) (tgt := 1635) dL_law_44 hc9 (by decide) (lwC_text hlz hx hbl hlt hL2 hI hS hr hZ hN)
        · exact JX_swIn (v := nI 25) (off := 1647) (tgt := 1691) dL_law_44 hc9 (by decide) (lwC_save hlz hx hbl hlt hL2 hI hS hr hZ hN)
        · exact JX_swIn (v := nI 26) (off := 1660) (tgt := 1704) dL_law_44 hc9 (by decide) (lwC_restore hlz hx hbl hlt hL2 hI hS hr hZ hN)
      · refine JX_swOut (tgt := 1748) dL_law_44 (by rw [← hw9]; omega) (by decide) ?_
        exact JX_widen (by omega) (by omega) (hN S sv β len T E kd ad rh μr μc v8 d8 hS (hr.step (by omega)) (lJ.keep hZ) hI)
theorem lw_init (hlz : l.stackTraces = false) (hx : va_X b L xs s s.heap) (hbl : b < s.heap.size) (hL2 : L ≤ 2048) (hEnd : ∀ (x1 x2 a0 : Nat) (cJ cD : ClassId) (adr : Nat → Nat → Nat) (n : Nat) (E : List (Nat × Nat)) (kd : Nat → gKd) (ad : Nat → Nat → Nat) (rh : gRh) (μr μc : gM) (v8 : Int64) (d8 : UInt64), n ≤ 512 → JL p l e s m below meth c D tc sa cJ cD x1 x2 adr b Q E kd ad rh μr μc v8 d8 (1000 + 300 * n) (10000 + 5000 * n) 1754 [(5, .int (nI (4 * n))), (4, .ref x2), (3, .ref x1), (2, .ref (adr 0 0)), (1, .ref a0), (0, .ref b)] []) : J p l e room_1 s m #[Value.ref b] below meth c cL_law 9 RL D [] gkd_C tc (fun _ _ => 0) (rhK 1) sa (fun q => s.heap.size ≤ q) s.heap 0 0 Q qlM0 0 [(0, .ref b)] [] := by
  refine J_newOk (N := 4) (ci := 10) (f0 := 0) (i0 := 0) (Cn := RX6) (T := TX6) (pc1 := 3) List.not_mem_nil rfl rfl inX6 tyX6 tyX6_ok X6_def (fun f i k h => absurd h List.not_mem_nil) (fun k => rhK_no rfl) (funext fun _ => rfl) clL_8 instX6 iniX6 (Nat.le_of_ble_eq_true rfl) (Nat.le_of_ble_eq_true rfl) dL_law_0 rfl (fun q0 hq0 => ?_)
  obtain ⟨ad0, had0⟩ : ∃ ad0, ad0 = gAd (fun _ _ => 0) 0 0 q0 := ⟨_, rfl⟩
  rw [← had0]
  have h00 : ad0 0 0 = q0 := by rw [had0]; exact gAd_at
  rw [← h00]
  show J p l e room_1 s m #[Value.ref b] below meth c cL_law 9 RL D [(0, 0)] gkd_C tc ad0 (rhK 1) sa (fun q => s.heap.size ≤ q) s.heap 1 4 Q qlM0 3 [(0, .ref b)] [.ref (ad0 0 0)]
  refine J_dup (pc1 := 4) dL_law_3 rfl rfl ?_
  refine J_runE (J_hI (st := [.ref (ad0 0 0)]) (As := []) (kX6_init l D tc sa (ad := ad0)) wiL_104 rfl ⟨Nat.le_of_ble_eq_true rfl, Nat.le_of_ble_eq_true rfl⟩ ⟨Nat.le_of_ble_eq_true rfl, Nat.le_of_ble_eq_true rfl⟩ (Nat.le_of_ble_eq_true rfl) dL_law_4) (fun o1 E1 kd1 ad1 rh1 μ1 hp hI1 hfr => ?_)
  obtain ⟨rfl, ada, adb, N0, ml, arr, μq, rfl, rfl, rfl, rfl, rfl, ha0, ha23, hfit, hRB, hbu⟩ := hp
  have hS0 : cSt (ad0 0 0) (zBegin 7 0) none (fun _ => 0) 0 [] (mxE sE (gE_C 1)) (mxK (sKd 16 N0) gkd_C) (mxA ada adb) (mxR sRh (grh_C 1)) (mxM (sM 0 ml arr) μq) := ⟨1, 16, N0, ada, adb, ml, arr, μq, rfl, rfl, rfl, rfl, rfl, ha0, ⟨hI1, ha23, fun j hj => absurd hj (Nat.not_lt_zero j), hfit, Nat.zero_le _, by decide, by decide, by decide, by decide⟩, hRB, ⟨by rw [hbu]; rfl, by decide, fun i hi => absurd hi (Nat.not_lt_zero i)⟩, Or.inl ⟨rfl, rfl⟩⟩
  generalize mxE sE (gE_C 1) = Ec at *
  generalize mxK (sKd 16 N0) gkd_C = kc at *
  generalize mxA ada adb = ac at *
  generalize mxR sRh (grh_C 1) = rc at *
  generalize mxM (sM 0 ml arr) μq = μc at *
  show J p l e room_1 s m #[Value.ref b] below meth c cL_law 9 RL D Ec kc tc ac rc sa (fun q => s.heap.size ≤ q) s.heap 221 2093 Q μc 7 [(0, .ref b)] [.ref (ad0 0 0)]
  refine J_astore_n (i := 1) (lv1 := [(1, .ref (ad0 0 0)), (0, .ref b)]) (pc1 := 8) dL_law_7 rfl (by decide) rfl rfl ?_
  have hE0 : gI (mxE [] Ec) (mxA ac ac) := gI_mx (fun _ _ h => absurd h List.not_mem_nil) (fun i j p q hi _ _ => by cases i <;> cases hi) hI1 (fun _ _ _ _ h _ => absurd h List.not_mem_nil)
  refine J_conv2 (E1 := mxE [] Ec) (kd1 := mxK gkd_R kc) (ad1 := mxA ac ac) (rh1 := mxR (fun _ _ _ _ => none) rc) (μ1 := mxM (fun _ _ _ => 0) μc) hE0 (fun f i h => by
    rcases mxE_in.mp h with h2 | ⟨f0, h2, rfl⟩
    · exact absurd h2 List.not_mem_nil
    · exact ⟨f0, i, h2, mxA_b, mx_gb⟩) ?_
  refine J_newO (N := 14) (ci := 11) (f0 := 0) (i0 := 0) (refs := [1, 2, 4, 5, 12]) (Cn := RX7) (T := TX7) (pc1 := 11) (fun h => by
    rcases mxE_in.mp h with h2 | ⟨f0, h2, h3⟩
    · exact absurd h2 List.not_mem_nil
    · omega) rfl rfl inX7 tyX7 tyX7_ok X7_def (fun f i row k h => mxR_ne (by decide) h) (fun row k => rfl) (by funext k; rfl) clL_105 instX7 iniX7 (Nat.le_of_ble_eq_true rfl) (Nat.le_of_ble_eq_true rfl) dL_law_8 rfl (fun b9 hb9 => ?_)
  rw [mxA_gAd (by decide)]
  have hI2 : gI (mxE [(0, 0)] Ec) (mxA (gAd ac 0 0 b9) ac) := gI_mx mxL_one.1 (fun i j p q hi hj _ => by
    match i, j, hi, hj with
    | 0, 0, _, _ => rfl) hI1 (fun f i f' i' h h2 z => by
    have hfi : f = 0 ∧ i = 0 := by simpa using h
    rw [hfi.1, hfi.2, gAd_at] at z
    exact hb9 (f' + 30) i' (mxE_b h2) (by rw [mxA_b]; exact z.symm))
  refine J_conv2 (E1 := mxE [(0, 0)] Ec) (kd1 := mxK gkd_R kc) (ad1 := mxA (gAd ac 0 0 b9) ac) (rh1 := mxR (fun _ _ _ _ => none) rc) (μ1 := mxM (fun _ _ _ => 0) μc) hI2 (fun f i h => ⟨f, i, by
    rcases mxE_in.mp h with h2 | ⟨f0, h2, rfl⟩
    · exact List.mem_append_right _ h2
    · exact List.mem_append_left _ (mxE_b h2), rfl, rfl⟩) ?_
  rw [show (Value.ref b9) = .ref (gAd ac 0 0 b9 0 0) from congrArg Value.ref gAd_at.symm]
  refine J_dup (pc1 := 12) dL_law_11 rfl rfl ?_
  refine J_mixA (pc1 := 15) (ce := 227) (sl := 6144) hI2 mxL_one (J_hI (st := [.ref (gAd ac 0 0 b9 0 0)]) (As := []) (kX7_initQ (l := l) (D := D) (tc := tc) (sa := sa) (ad := gAd ac 0 0 b9)) wiL_107 rfl ⟨Nat.le_of_ble_eq_true rfl, Nat.le_of_ble_eq_true rfl⟩ ⟨Nat.le_of_ble_eq_true rfl, Nat.le_of_ble_eq_true rfl⟩ (Nat.le_of_ble_eq_true rfl) dL_law_12) rfl rfl rfl (fun o E1 kd1 ad1 rh1 μ1 hp => by obtain ⟨-, rfl, -, -, rfl, -⟩ := hp; exact mxL_R) (fun o1 E1 kd1 adr rh1 μr hp hI3 => ?_)
  obtain ⟨rfl, rfl, rfl, hr0, rfl, hRA, hz⟩ := hp
  rw [← hr0]
  show J p l e room_1 s m #[Value.ref b] below meth c cL_law 9 RL D (mxE gE_R Ec) (mxK gkd_R kc) tc (mxA adr ac) (mxR rhQ rc) sa (fun q => s.heap.size ≤ q) s.heap 227 6144 Q (mxM μr μc) 15 [(1, .ref (ad0 0 0)), (0, .ref b)] [.ref (adr 0 0)]
  refine J_astore_n (i := 2) (lv1 := [(2, .ref (adr 0 0)), (1, .ref (ad0 0 0)), (0, .ref b)]) (pc1 := 16) dL_law_15 rfl (by decide) rfl rfl ?_
  refine J_iconst (v := 1) (pc1 := 17) dL_law_16 (by decide) rfl ?_
  refine J_arrays rfl rfl (by decide) (by decide) (fun cJ cD x1 x2 => ?_)
  refine JX_iconst (v := 0) (pc1 := 26) dL_law_25 (by decide) rfl ?_
  refine JX_eqI (y := nI (4 * 0)) rfl ?_
  refine JX_istore (i := 5) (lv1 := [(5, .int (nI (4 * 0))), (4, .ref x2), (3, .ref x1), (2, .ref (adr 0 0)), (1, .ref (ad0 0 0)), (0, .ref b)]) (pc1 := 28) dL_law_26 (by decide) rfl rfl ?_
  have hIL : zIL (zB 0) (zBegin 7 0) := zIL.begin (by decide) 0
  have hz9 : ∀ k, ¬ (k = 1 ∨ k = 2 ∨ k = 4 ∨ k = 5 ∨ k = 12) → μr 0 0 k = 0 := hz
  exact JX_widen (by decide) (by decide) (lw_loop hlz hx hbl hL2 (fun n E kd ad rh μr μc v8 d8 h => hEnd x1 x2 (ad0 0 0) cJ cD adr n E kd ad rh μr μc v8 d8 h) 512 0 (by omega) (Nat.zero_le _) (zBegin 7 0) none (fun _ => 0) 0 [] Ec kc ac rc μr μc 0 0 hS0 ⟨⟨hRA, hIL, by decide⟩, Or.inl ⟨rfl, hz9 3 (by decide)⟩, ⟨by rw [hz9 6 (by decide)]; rfl, by decide, fun i hi => absurd hi (Nat.not_lt_zero i)⟩, ⟨by rw [hz9 13 (by decide)]; rfl, by decide, fun i hi => absurd hi (Nat.not_lt_zero i)⟩⟩ ⟨⟨hIL, fun t => Or.inl rfl, Nat.zero_le _⟩, fun S' h => by cases h⟩ hI3)
end LwL
