/-! what the law calls of the reference, and of the class itself -/
theorem zs_Msgs {S : sqSt} : (zaMsgs S).2.2 = S := rfl
/-- the reference's pointers, none of them beyond its families -/
def rhQ : gRh := fun _ _ _ k => if k < 30 then some (k, 0) else none
theorem gE_R_lt {f i : Nat} (h : (f, i) ∈ gE_R) : f < 30 ∧ i = 0 := by
  simp only [gE_R, List.mem_cons, Prod.mk.injEq, List.not_mem_nil, or_false] at h
  omega
theorem mxL_R : mxL gE_R rhQ := ⟨fun f i h => (gE_R_lt h).1, fun f i row k z _ h => by
  unfold rhQ at h
  split at h
  · cases h; assumption
  · cases h⟩
theorem g_w_Q {tc : Nat → ClassId} {ad : Nat → Nat → Nat} (μ : gM) : g_w gE_R gkd_R tc ad rhQ μ = g_w gE_R gkd_R tc ad grh_R μ := by
  unfold g_w
  refine List.map_congr_left (fun x hx => ?_)
  have e : g_e gkd_R tc ad rhQ (μ x.1 x.2) x.1 x.2 = g_e gkd_R tc ad grh_R (μ x.1 x.2) x.1 x.2 := g_e_cg (fun k hk => by
    have hk2 : k < 30 := by
      have hx2 := gE_R_lt hx
      unfold gRl at hk
      have h0 : ∀ f, f ≠ 0 → (match gkd_R f with | .inl z => z.2.2.contains k = true ∧ k < z.2.1 | .inr (.inl _) => False | .inr (.inr _) => True) → k < 30 := fun f hf q => by
        match f, hf, q with
        | 1, _, q => exact q.elim
        | 2, _, q => exact q.elim
        | 3, _, q => exact q.elim
        | 4, _, q => exact q.elim
        | 5, _, q => exact q.elim
        | f + 6, _, q => exact q.elim
      by_cases h9 : x.1 = 0
      · rw [h9] at hk
        have := (show _ ∧ k < 14 from hk).2
        omega
      · exact h0 x.1 h9 hk
    show (if k < 30 then some (k, 0) else none).map _ = (some (k, 0)).map _
    rw [if_pos hk2])
  rw [e]
section SqRc0
variable {l : Launch} {D : va_G} {tc : Nat → ClassId} {sa : Nat → Nat} {ad : Nat → Nat → Nat} {cc : ByteArray} {μ μ1 : gM} {y : MethodName} {maxL : Nat} {ret : Option FieldType} {rm : Room} {av : List Value} {o : Option Value}
theorem gMetG.Q (hI : gI gE_R ad) (h : gMetG l y cc maxL ret rm D gE_R gkd_R tc ad grh_R sa av μ (gSame gE_R gkd_R ad grh_R o μ1)) : gMetG l y cc maxL ret rm D gE_R gkd_R tc ad rhQ sa av μ (gSame gE_R gkd_R ad rhQ o μ1) := by
  intro sz
  refine MetFree.mono (h sz) (fun a s0 q => ⟨q.1, q.2.1, by rw [← g_w_Q]; exact q.2.2.1, q.2.2.2⟩) (fun _ _ _ _ _ q => q) (fun a st oc t _ h2 => ⟨?_, h2.2⟩)
  obtain ⟨⟨o1, E1, kd1, ad1, rh1, μ2, h3, ⟨rfl, rfl, rfl, rfl, rfl, rfl⟩, h4, h5, h6, h7⟩, -⟩ := h2
  exact ⟨_, _, _, _, rhQ, _, h3, ⟨rfl, rfl, rfl, rfl, rfl, rfl⟩, h4, h5, by rw [g_w_Q]; exact h6, h7⟩
theorem gMet.Q (hI : gI gE_R ad) (hrm : rm.cells = 0 ∧ rm.slots = 0) (h : gMet l y cc maxL ret rm D gE_R gkd_R tc ad grh_R sa av μ o μ1) : gMetG l y cc maxL ret rm D gE_R gkd_R tc ad rhQ sa av μ (gSame gE_R gkd_R ad rhQ o μ1) := gMetG.Q hI (gMet.G hI hrm h)
end SqRc0
section SqRc1
variable {l : Launch} {D : va_G} {tc : Nat → ClassId} {sa : Nat → Nat} {ad : Nat → Nat → Nat} {μ μ' : gM} {n len len' B : Nat} {S S' : sqSt} {sv : Option sqSt} {β β' : Nat → Int32} {T : List Nat} {a1 a2 a3 : Int32} {A : Nat → Int32}
theorem RZ.nx (R : RZ B A S) (hB : B ≤ zB n + 74880) (hn : n ≤ 600) : RZ (zB (n + 1)) A S := by
  have h9 := zB_lt hn
  exact R.up (by rw [zB_1]; omega) (by rw [zB_1]; omega)
def rSv (n : Nat) (sv : Option sqSt) (μ : gM) : Prop := (sv = none ∧ μ 0 0 3 = 0) ∨ ∃ S', sv = some S' ∧ μ 0 0 3 = 1 ∧ RZ (zB n) (μ 2 0) S'
theorem rSv.cg (h : rSv n sv μ) (e3 : μ' 0 0 3 = μ 0 0 3) (e2 : μ' 2 0 = μ 2 0) (hn : n ≤ 600) : rSv (n + 1) sv μ' := by
  have hB := zB_lt hn
  rcases h with ⟨h1, h2⟩ | ⟨S9, h1, h2, h3⟩
  · exact Or.inl ⟨h1, e3.trans h2⟩
  · exact Or.inr ⟨S9, h1, e3.trans h2, by rw [e2]; exact RZ.nx h3 (by omega) hn⟩
/-- the reference's world, as cSt says it of the class's -/
def rSt (n : Nat) (S : sqSt) (sv : Option sqSt) (β : Nat → Int32) (len : Nat) (T : List Nat) (μ : gM) : Prop := RZ (zB n) (μ 1 0) S ∧ rSv n sv μ ∧ BuR μ β len ∧ TxR μ (fun i => nI (T.getD i 0)) T.length
def lJ (n : Nat) (S : sqSt) (sv : Option sqSt) : Prop := zJ n S ∧ ∀ S', sv = some S' → zJ n S'
theorem lJ.keep (h : lJ n S sv) : lJ (n + 1) S sv := ⟨h.1.up (by omega), fun S9 h9 => (h.2 S9 h9).up (by omega)⟩
theorem TxR.cg {τ : Nat → Int32} {tl : Nat} (h : TxR μ τ tl) (e13 : μ' 0 0 13 = μ 0 0 13) (e12 : μ' 12 0 = μ 12 0) : TxR μ' τ tl := ⟨by rw [e13]; exact h.1, h.2.1, fun i hi => by rw [e12]; exact h.2.2 i hi⟩
theorem rSt.post (h : rSt n S sv β len T μ) (F : gF3 μ μ') (R : RZ B (μ' 1 0) S') (hB : B ≤ zB n + 74880) (hn : n ≤ 600) : rSt (n + 1) S' sv β len T μ' :=
  ⟨R.nx hB hn, rSv.cg h.2.1 (F 0 0 3 (by omega) (by omega)) (funext fun j => F 2 0 j (by omega) (by omega)) hn, ⟨by rw [F 0 0 6 (by omega) (by omega)]; exact h.2.2.1.1, h.2.2.1.2.1, fun i hi => by rw [F 5 0 i (by omega) (by omega)]; exact h.2.2.1.2.2 i hi⟩, TxR.cg h.2.2.2 (F 0 0 13 (by omega) (by omega)) (funext fun j => F 12 0 j (by omega) (by omega))⟩
theorem rSt.bu (h : rSt n S sv β len T μ) (e : ∀ f i j, f ≠ 5 → ¬ (f = 0 ∧ (j = 0 ∨ j = 6)) → μ' f i j = μ f i j) (hb : BuR μ' β' len') (hn : n ≤ 600) : rSt (n + 1) S sv β' len' T μ' := by
  have hB := zB_lt hn
  exact ⟨by rw [show μ' 1 0 = μ 1 0 from funext fun j => e 1 0 j (by decide) (by omega)]; exact RZ.nx h.1 (by omega) hn, rSv.cg h.2.1 (e 0 0 3 (by decide) (by omega)) (funext fun j => e 2 0 j (by decide) (by omega)) hn, hb, TxR.cg h.2.2.2 (e 0 0 13 (by decide) (by omega)) (funext fun j => e 12 0 j (by decide) (by omega))⟩
theorem rC_start (hI : gI gE_R ad) (h : rSt n S sv β len T μ) (hZ : lJ n S sv) (hn : n ≤ 600) : ∃ (b9 : Int32) (μ9 : gM), gMetG l yX7_start cX7_start 3 (some .int) ({ frames := 3, cells := 0, slots := 0, locals := 68 } : Room) D gE_R gkd_R tc ad rhQ sa [.ref (ad 0 0), .int a1, .int a2] μ (gSame gE_R gkd_R ad rhQ (some (.int b9)) μ9) ∧ (μ9 0 0 0).toInt = (zaStart S a1.toInt a2).1 ∧ ((zaStart S a1.toInt a2).1 = 0 → b9.toInt = (zaStart S a1.toInt a2).2.1) ∧ rSt (n + 1) (zaStart S a1.toInt a2).2.2 sv β len T μ9 ∧ lJ (n + 1) (zaStart S a1.toInt a2).2.2 sv := by
  have hB := zB_lt hn
  obtain ⟨⟨b9, μ9⟩, h1, hp⟩ := mX7_start_ok h.1
  obtain ⟨hF, hc, hv, hR⟩ := id hp
  exact ⟨b9, μ9, gMet.Q hI ⟨rfl, rfl⟩ (kX7_start l D tc sa ad hI a1 a2 μ b9 μ9 h1), hc, hv, rSt.post h hF hR (by omega) hn, ⟨zJ_start hZ.1 hR.2.1 (by omega), fun S9 h9 => (hZ.2 S9 h9).up (by omega)⟩⟩
theorem rC_tick (hI : gI gE_R ad) (h : rSt n S sv β len T μ) (hZ : lJ n S sv) (hn : n ≤ 600) : ∃ (b9 : Int32) (μ9 : gM), gMetG l yX7_tick cX7_tick 3 (some .int) ({ frames := 11, cells := 0, slots := 0, locals := 249 } : Room) D gE_R gkd_R tc ad rhQ sa [.ref (ad 0 0), .int a1] μ (gSame gE_R gkd_R ad rhQ (some (.int b9)) μ9) ∧ (μ9 0 0 0).toInt = (zaTick S a1.toInt).1 ∧ ((zaTick S a1.toInt).1 = 0 → b9.toInt = (zaTick S a1.toInt).2.1) ∧ rSt (n + 1) (zaTick S a1.toInt).2.2 sv β len T μ9 ∧ lJ (n + 1) (zaTick S a1.toInt).2.2 sv := by
  have hB := zB_lt hn
  obtain ⟨⟨b9, μ9⟩, h1, hp⟩ := mX7_tick_ok h.1 (by omega)
  obtain ⟨hF, hc, hv, hR⟩ := id hp
  exact ⟨b9, μ9, gMet.Q hI ⟨rfl, rfl⟩ (kX7_tick l D tc sa ad hI a1 μ b9 μ9 h1), hc, hv, rSt.post h hF hR (by omega) hn, ⟨hZ.1.next hR.2.1 (by omega) (zw_aTick hZ.1.1), fun S9 h9 => (hZ.2 S9 h9).up (by omega)⟩⟩
theorem rC_setDelay (hI : gI gE_R ad) (h : rSt n S sv β len T μ) (hZ : lJ n S sv) (hn : n ≤ 600) : ∃ (b9 : Int32) (μ9 : gM), gMetG l yX7_setDelay cX7_setDelay 3 (some .int) ({ frames := 1, cells := 0, slots := 0, locals := 22 } : Room) D gE_R gkd_R tc ad rhQ sa [.ref (ad 0 0), .int a1] μ (gSame gE_R gkd_R ad rhQ (some (.int b9)) μ9) ∧ (μ9 0 0 0).toInt = (zaDelay S a1.toInt).1 ∧ ((zaDelay S a1.toInt).1 = 0 → b9.toInt = (zaDelay S a1.toInt).2.1) ∧ rSt (n + 1) (zaDelay S a1.toInt).2.2 sv β len T μ9 ∧ lJ (n + 1) (zaDelay S a1.toInt).2.2 sv := by
  have hB := zB_lt hn
  obtain ⟨⟨b9, μ9⟩, h1, hp⟩ := mX7_setDelay_ok h.1
  obtain ⟨hF, hc, hv, hR⟩ := id hp
  exact ⟨b9, μ9, gMet.Q hI ⟨rfl, rfl⟩ (kX7_setDelay l D tc sa ad hI a1 μ b9 μ9 h1), hc, hv, rSt.post h hF hR (by omega) hn, ⟨hZ.1.next hR.2.1 (by omega) zw_aDelay, fun S9 h9 => (hZ.2 S9 h9).up (by omega)⟩⟩
theorem rC_setLink (hI : gI gE_R ad) (h : rSt n S sv β len T μ) (hZ : lJ n S sv) (hn : n ≤ 600) : ∃ (b9 : Int32) (μ9 : gM), gMetG l yX7_setLink cX7_setLink 5 (some .boolean) ({ frames := 2, cells := 0, slots := 0, locals := 42 } : Room) D gE_R gkd_R tc ad rhQ sa [.ref (ad 0 0), .int a1, .int a2, .int a3] μ (gSame gE_R gkd_R ad rhQ (some (.int b9)) μ9) ∧ (μ9 0 0 0).toInt = (zaLink S a1.toInt a2.toInt (decide (a3 ≠ 0))).1 ∧ ((zaLink S a1.toInt a2.toInt (decide (a3 ≠ 0))).1 = 0 → b9.toInt = (zaLink S a1.toInt a2.toInt (decide (a3 ≠ 0))).2.1) ∧ rSt (n + 1) (zaLink S a1.toInt a2.toInt (decide (a3 ≠ 0))).2.2 sv β len T μ9 ∧ lJ (n + 1) (zaLink S a1.toInt a2.toInt (decide (a3 ≠ 0))).2.2 sv := by
  have hB := zB_lt hn
  obtain ⟨⟨b9, μ9⟩, h1, hp⟩ := mX7_setLink_ok (a1 := a1) (a2 := a2) (a3 := a3) h.1
  obtain ⟨hF, hc, hv, hR⟩ := id hp
  exact ⟨b9, μ9, gMet.Q hI ⟨rfl, rfl⟩ (kX7_setLink l D tc sa ad hI a1 a2 a3 μ b9 μ9 h1), hc, hv, rSt.post h hF hR (by omega) hn, ⟨hZ.1.next hR.2.1 (by omega) zw_aLink, fun S9 h9 => (hZ.2 S9 h9).up (by omega)⟩⟩
theorem rC_crash (hI : gI gE_R ad) (h : rSt n S sv β len T μ) (hZ : lJ n S sv) (hn : n ≤ 600) : ∃ (b9 : Int32) (μ9 : gM), gMetG l yX7_crash cX7_crash 2 (some .int) ({ frames := 2, cells := 0, slots := 0, locals := 42 } : Room) D gE_R gkd_R tc ad rhQ sa [.ref (ad 0 0), .int a1] μ (gSame gE_R gkd_R ad rhQ (some (.int b9)) μ9) ∧ (μ9 0 0 0).toInt = (zaCrash S a1.toInt).1 ∧ ((zaCrash S a1.toInt).1 = 0 → b9.toInt = (zaCrash S a1.toInt).2.1) ∧ rSt (n + 1) (zaCrash S a1.toInt).2.2 sv β len T μ9 ∧ lJ (n + 1) (zaCrash S a1.toInt).2.2 sv := by
  have hB := zB_lt hn
  obtain ⟨⟨b9, μ9⟩, h1, hp⟩ := mX7_crash_ok h.1
  obtain ⟨hF, hc, hv, hR⟩ := id hp
  exact ⟨b9, μ9, gMet.Q hI ⟨rfl, rfl⟩ (kX7_crash l D tc sa ad hI a1 μ b9 μ9 h1), hc, hv, rSt.post h hF hR (by omega) hn, ⟨hZ.1.next hR.2.1 (by omega) zw_aCrash, fun S9 h9 => (hZ.2 S9 h9).up (by omega)⟩⟩
theorem rC_restart (hI : gI gE_R ad) (h : rSt n S sv β len T μ) (hZ : lJ n S sv) (hn : n ≤ 600) : ∃ (b9 : Int32) (μ9 : gM), gMetG l yX7_restart cX7_restart 2 (some .int) ({ frames := 2, cells := 0, slots := 0, locals := 45 } : Room) D gE_R gkd_R tc ad rhQ sa [.ref (ad 0 0), .int a1] μ (gSame gE_R gkd_R ad rhQ (some (.int b9)) μ9) ∧ (μ9 0 0 0).toInt = (zaBack S a1.toInt).1 ∧ ((zaBack S a1.toInt).1 = 0 → b9.toInt = (zaBack S a1.toInt).2.1) ∧ rSt (n + 1) (zaBack S a1.toInt).2.2 sv β len T μ9 ∧ lJ (n + 1) (zaBack S a1.toInt).2.2 sv := by
  have hB := zB_lt hn
  obtain ⟨⟨b9, μ9⟩, h1, hp⟩ := mX7_restart_ok h.1
  obtain ⟨hF, hc, hv, hR⟩ := id hp
  exact ⟨b9, μ9, gMet.Q hI ⟨rfl, rfl⟩ (kX7_restart l D tc sa ad hI a1 μ b9 μ9 h1), hc, hv, rSt.post h hF hR (by omega) hn, ⟨hZ.1.next hR.2.1 (by omega) zw_aBack, fun S9 h9 => (hZ.2 S9 h9).up (by omega)⟩⟩
theorem rC_submit (hI : gI gE_R ad) (h : rSt n S sv β len T μ) (hZ : lJ n S sv) (hn : n ≤ 600) : ∃ (b9 : Int32) (μ9 : gM), gMetG l yX7_submit cX7_submit 4 (some .int) ({ frames := 7, cells := 0, slots := 0, locals := 160 } : Room) D gE_R gkd_R tc ad rhQ sa [.ref (ad 0 0), .int a1, .int a2] μ (gSame gE_R gkd_R ad rhQ (some (.int b9)) μ9) ∧ (μ9 0 0 0).toInt = (zaSub S a1.toInt a2).1 ∧ ((zaSub S a1.toInt a2).1 = 0 → b9.toInt = (zaSub S a1.toInt a2).2.1) ∧ rSt (n + 1) (zaSub S a1.toInt a2).2.2 sv β len T μ9 ∧ lJ (n + 1) (zaSub S a1.toInt a2).2.2 sv := by
  have hB := zB_lt hn
  obtain ⟨⟨b9, μ9⟩, h1, hp⟩ := mX7_submit_ok (a1 := a1) (a2 := a2) h.1 (by omega)
  obtain ⟨hF, hc, hv, hR⟩ := id hp
  exact ⟨b9, μ9, gMet.Q hI ⟨rfl, rfl⟩ (kX7_submit l D tc sa ad hI a1 a2 μ b9 μ9 h1), hc, hv, rSt.post h hF hR (by omega) hn, ⟨hZ.1.next hR.2.1 (by omega) zw_aSub, fun S9 h9 => (hZ.2 S9 h9).up (by omega)⟩⟩
theorem rC_reconfigure (hI : gI gE_R ad) (h : rSt n S sv β len T μ) (hZ : lJ n S sv) (hn : n ≤ 600) : ∃ (b9 : Int32) (μ9 : gM), gMetG l yX7_reconfigure cX7_reconfigure 4 (some .int) ({ frames := 7, cells := 0, slots := 0, locals := 160 } : Room) D gE_R gkd_R tc ad rhQ sa [.ref (ad 0 0), .int a1, .int a2] μ (gSame gE_R gkd_R ad rhQ (some (.int b9)) μ9) ∧ (μ9 0 0 0).toInt = (zaConf S a1.toInt a2.toInt).1 ∧ ((zaConf S a1.toInt a2.toInt).1 = 0 → b9.toInt = (zaConf S a1.toInt a2.toInt).2.1) ∧ rSt (n + 1) (zaConf S a1.toInt a2.toInt).2.2 sv β len T μ9 ∧ lJ (n + 1) (zaConf S a1.toInt a2.toInt).2.2 sv := by
  have hB := zB_lt hn
  obtain ⟨⟨b9, μ9⟩, h1, hp⟩ := mX7_reconfigure_ok (a1 := a1) (a2 := a2) h.1 (by omega)
  obtain ⟨hF, hc, hv, hR⟩ := id hp
  exact ⟨b9, μ9, gMet.Q hI ⟨rfl, rfl⟩ (kX7_reconfigure l D tc sa ad hI a1 a2 μ b9 μ9 h1), hc, hv, rSt.post h hF hR (by omega) hn, ⟨hZ.1.next hR.2.1 (by omega) zw_aConf, fun S9 h9 => (hZ.2 S9 h9).up (by omega)⟩⟩
theorem rC_pack (hI : gI gE_R ad) (h : rSt n S sv β len T μ) (hZ : lJ n S sv) (hn : n ≤ 600) : ∃ (b9 : Int32) (μ9 : gM), gMetG l yX7_pack cX7_pack 9 (some .int) ({ frames := 3, cells := 0, slots := 0, locals := 70 } : Room) D gE_R gkd_R tc ad rhQ sa [.ref (ad 0 0), .int a1] μ (gSame gE_R gkd_R ad rhQ (some (.int b9)) μ9) ∧ (μ9 0 0 0).toInt = (zaPack S a1.toInt).1 ∧ ((zaPack S a1.toInt).1 = 0 → b9.toInt = (zaPack S a1.toInt).2.1) ∧ rSt (n + 1) (zaPack S a1.toInt).2.2 sv β len T μ9 ∧ lJ (n + 1) (zaPack S a1.toInt).2.2 sv := by
  have hB := zB_lt hn
  obtain ⟨⟨b9, μ9⟩, h1, hp⟩ := mX7_pack_ok h.1
  obtain ⟨hF, hc, hv, hR⟩ := id hp
  exact ⟨b9, μ9, gMet.Q hI ⟨rfl, rfl⟩ (kX7_pack l D tc sa ad hI a1 μ b9 μ9 h1), hc, hv, rSt.post h hF hR (by omega) hn, ⟨hZ.1.next hR.2.1 (by omega) zw_aPack, fun S9 h9 => (hZ.2 S9 h9).up (by omega)⟩⟩
theorem rC_read (hI : gI gE_R ad) (h : rSt n S sv β len T μ) (hZ : lJ n S sv) (hn : n ≤ 600) : ∃ (b9 : Int32) (μ9 : gM), gMetG l yX7_read cX7_read 2 (some .int) ({ frames := 7, cells := 0, slots := 0, locals := 157 } : Room) D gE_R gkd_R tc ad rhQ sa [.ref (ad 0 0), .int a1] μ (gSame gE_R gkd_R ad rhQ (some (.int b9)) μ9) ∧ (μ9 0 0 0).toInt = (zaRead S a1.toInt).1 ∧ ((zaRead S a1.toInt).1 = 0 → b9.toInt = (zaRead S a1.toInt).2.1) ∧ rSt (n + 1) (zaRead S a1.toInt).2.2 sv β len T μ9 ∧ lJ (n + 1) (zaRead S a1.toInt).2.2 sv := by
  have hB := zB_lt hn
  obtain ⟨⟨b9, μ9⟩, h1, hp⟩ := mX7_read_ok h.1 (by have := hZ.1.2.2; omega)
  obtain ⟨hF, hc, hv, hR⟩ := id hp
  exact ⟨b9, μ9, gMet.Q hI ⟨rfl, rfl⟩ (kX7_read l D tc sa ad hI a1 μ b9 μ9 h1), hc, hv, rSt.post h hF hR (by omega) hn, ⟨by rw [zs_Read]; exact hZ.1.up (by omega), fun S9 h9 => (hZ.2 S9 h9).up (by omega)⟩⟩
theorem rC_node (hI : gI gE_R ad) (h : rSt n S sv β len T μ) (hZ : lJ n S sv) (hn : n ≤ 600) : ∃ (b9 : Int32) (μ9 : gM), gMetG l yX7_node cX7_node 3 (some .int) ({ frames := 6, cells := 0, slots := 0, locals := 136 } : Room) D gE_R gkd_R tc ad rhQ sa [.ref (ad 0 0), .int a1, .int a2] μ (gSame gE_R gkd_R ad rhQ (some (.int b9)) μ9) ∧ (μ9 0 0 0).toInt = (zaNode S a1.toInt a2.toInt).1 ∧ ((zaNode S a1.toInt a2.toInt).1 = 0 → b9.toInt = (zaNode S a1.toInt a2.toInt).2.1) ∧ rSt (n + 1) (zaNode S a1.toInt a2.toInt).2.2 sv β len T μ9 ∧ lJ (n + 1) (zaNode S a1.toInt a2.toInt).2.2 sv := by
  have hB := zB_lt hn
  obtain ⟨⟨b9, μ9⟩, h1, hp⟩ := mX7_node_ok (a1 := a1) (a2 := a2) h.1 (by have := hZ.1.2.2; omega)
  obtain ⟨hF, hc, hv, hR⟩ := id hp
  exact ⟨b9, μ9, gMet.Q hI ⟨rfl, rfl⟩ (kX7_node l D tc sa ad hI a1 a2 μ b9 μ9 h1), hc, hv, rSt.post h hF hR (by omega) hn, ⟨by rw [zs_Node]; exact hZ.1.up (by omega), fun S9 h9 => (hZ.2 S9 h9).up (by omega)⟩⟩
theorem rC_noted (hI : gI gE_R ad) (h : rSt n S sv β len T μ) (hZ : lJ n S sv) (hn : n ≤ 600) : ∃ (b9 : Int32) (μ9 : gM), gMetG l yX7_noted cX7_noted 4 (some .int) ({ frames := 2, cells := 0, slots := 0, locals := 42 } : Room) D gE_R gkd_R tc ad rhQ sa [.ref (ad 0 0), .int a1, .int a2, .int a3] μ (gSame gE_R gkd_R ad rhQ (some (.int b9)) μ9) ∧ (μ9 0 0 0).toInt = (zaNoted S a1.toInt a2.toInt a3.toInt).1 ∧ ((zaNoted S a1.toInt a2.toInt a3.toInt).1 = 0 → b9.toInt = (zaNoted S a1.toInt a2.toInt a3.toInt).2.1) ∧ rSt (n + 1) (zaNoted S a1.toInt a2.toInt a3.toInt).2.2 sv β len T μ9 ∧ lJ (n + 1) (zaNoted S a1.toInt a2.toInt a3.toInt).2.2 sv := by
  have hB := zB_lt hn
  obtain ⟨⟨b9, μ9⟩, h1, hp⟩ := mX7_noted_ok (a1 := a1) (a2 := a2) (a3 := a3) h.1
  obtain ⟨hF, hc, hv, hR⟩ := id hp
  exact ⟨b9, μ9, gMet.Q hI ⟨rfl, rfl⟩ (kX7_noted l D tc sa ad hI a1 a2 a3 μ b9 μ9 h1), hc, hv, rSt.post h hF hR (by omega) hn, ⟨by rw [zs_Noted]; exact hZ.1.up (by omega), fun S9 h9 => (hZ.2 S9 h9).up (by omega)⟩⟩
theorem rC_entry (hI : gI gE_R ad) (h : rSt n S sv β len T μ) (hZ : lJ n S sv) (hn : n ≤ 600) : ∃ (b9 : Int32) (μ9 : gM), gMetG l yX7_entry cX7_entry 5 (some .int) ({ frames := 2, cells := 0, slots := 0, locals := 45 } : Room) D gE_R gkd_R tc ad rhQ sa [.ref (ad 0 0), .int a1, .int a2, .int a3] μ (gSame gE_R gkd_R ad rhQ (some (.int b9)) μ9) ∧ (μ9 0 0 0).toInt = (zaEnt S a1.toInt a2.toInt a3.toInt).1 ∧ ((zaEnt S a1.toInt a2.toInt a3.toInt).1 = 0 → b9.toInt = (zaEnt S a1.toInt a2.toInt a3.toInt).2.1) ∧ rSt (n + 1) (zaEnt S a1.toInt a2.toInt a3.toInt).2.2 sv β len T μ9 ∧ lJ (n + 1) (zaEnt S a1.toInt a2.toInt a3.toInt).2.2 sv := by
  have hB := zB_lt hn
  obtain ⟨⟨b9, μ9⟩, h1, hp⟩ := mX7_entry_ok (a1 := a1) (a2 := a2) (a3 := a3) h.1
  obtain ⟨hF, hc, hv, hR⟩ := id hp
  exact ⟨b9, μ9, gMet.Q hI ⟨rfl, rfl⟩ (kX7_entry l D tc sa ad hI a1 a2 a3 μ b9 μ9 h1), hc, hv, rSt.post h hF hR (by omega) hn, ⟨by rw [zs_Ent]; exact hZ.1.up (by omega), fun S9 h9 => (hZ.2 S9 h9).up (by omega)⟩⟩
theorem rC_messages (hI : gI gE_R ad) (h : rSt n S sv β len T μ) (hZ : lJ n S sv) (hn : n ≤ 600) : ∃ (b9 : Int32) (μ9 : gM), gMetG l yX7_messages cX7_messages 1 (some .int) ({ frames := 0, cells := 0, slots := 0, locals := 0 } : Room) D gE_R gkd_R tc ad rhQ sa [.ref (ad 0 0)] μ (gSame gE_R gkd_R ad rhQ (some (.int b9)) μ9) ∧ (μ9 0 0 0).toInt = (zaMsgs S).1 ∧ ((zaMsgs S).1 = 0 → b9.toInt = (zaMsgs S).2.1) ∧ rSt (n + 1) (zaMsgs S).2.2 sv β len T μ9 ∧ lJ (n + 1) (zaMsgs S).2.2 sv := by
  have hB := zB_lt hn
  obtain ⟨⟨b9, μ9⟩, h1, hp⟩ := mX7_messages_ok h.1
  obtain ⟨hF, hc, hv, hR⟩ := id hp
  exact ⟨b9, μ9, gMet.Q hI ⟨rfl, rfl⟩ (kX7_messages l D tc sa ad hI  μ b9 μ9 h1), hc, hv, rSt.post h hF hR (by omega) hn, ⟨by rw [zs_Msgs]; exact hZ.1.up (by omega), fun S9 h9 => (hZ.2 S9 h9).up (by omega)⟩⟩
theorem rC_message (hI : gI gE_R ad) (h : rSt n S sv β len T μ) (hZ : lJ n S sv) (hn : n ≤ 600) : ∃ (b9 : Int32) (μ9 : gM), gMetG l yX7_message cX7_message 3 (some .int) ({ frames := 1, cells := 0, slots := 0, locals := 22 } : Room) D gE_R gkd_R tc ad rhQ sa [.ref (ad 0 0), .int a1, .int a2] μ (gSame gE_R gkd_R ad rhQ (some (.int b9)) μ9) ∧ (μ9 0 0 0).toInt = (zaMsg S a1.toInt a2.toInt).1 ∧ ((zaMsg S a1.toInt a2.toInt).1 = 0 → b9.toInt = (zaMsg S a1.toInt a2.toInt).2.1) ∧ rSt (n + 1) (zaMsg S a1.toInt a2.toInt).2.2 sv β len T μ9 ∧ lJ (n + 1) (zaMsg S a1.toInt a2.toInt).2.2 sv := by
  have hB := zB_lt hn
  obtain ⟨⟨b9, μ9⟩, h1, hp⟩ := mX7_message_ok (a1 := a1) (a2 := a2) h.1
  obtain ⟨hF, hc, hv, hR⟩ := id hp
  exact ⟨b9, μ9, gMet.Q hI ⟨rfl, rfl⟩ (kX7_message l D tc sa ad hI a1 a2 μ b9 μ9 h1), hc, hv, rSt.post h hF hR (by omega) hn, ⟨by rw [zs_Msg]; exact hZ.1.up (by omega), fun S9 h9 => (hZ.2 S9 h9).up (by omega)⟩⟩
theorem rC_lose (hI : gI gE_R ad) (h : rSt n S sv β len T μ) (hZ : lJ n S sv) (hn : n ≤ 600) : ∃ (b9 : Int32) (μ9 : gM), gMetG l yX7_lose cX7_lose 2 (some .int) ({ frames := 1, cells := 0, slots := 0, locals := 22 } : Room) D gE_R gkd_R tc ad rhQ sa [.ref (ad 0 0), .int a1] μ (gSame gE_R gkd_R ad rhQ (some (.int b9)) μ9) ∧ (μ9 0 0 0).toInt = (zaLose S a1.toInt).1 ∧ ((zaLose S a1.toInt).1 = 0 → b9.toInt = (zaLose S a1.toInt).2.1) ∧ rSt (n + 1) (zaLose S a1.toInt).2.2 sv β len T μ9 ∧ lJ (n + 1) (zaLose S a1.toInt).2.2 sv := by
  have hB := zB_lt hn
  obtain ⟨⟨b9, μ9⟩, h1, hp⟩ := mX7_lose_ok h.1
  obtain ⟨hF, hc, hv, hR⟩ := id hp
  exact ⟨b9, μ9, gMet.Q hI ⟨rfl, rfl⟩ (kX7_lose l D tc sa ad hI a1 μ b9 μ9 h1), hc, hv, rSt.post h hF hR (by omega) hn, ⟨hZ.1.next hR.2.1 (by omega) zw_aLose, fun S9 h9 => (hZ.2 S9 h9).up (by omega)⟩⟩
theorem rC_leader (hI : gI gE_R ad) (h : rSt n S sv β len T μ) (hZ : lJ n S sv) (hn : n ≤ 600) : ∃ (b9 : Int32) (μ9 : gM), gMetG l yX7_leader cX7_leader 4 (some .int) ({ frames := 1, cells := 0, slots := 0, locals := 22 } : Room) D gE_R gkd_R tc ad rhQ sa [.ref (ad 0 0)] μ (gSame gE_R gkd_R ad rhQ (some (.int b9)) μ9) ∧ (μ9 0 0 0).toInt = (zaLeader S).1 ∧ ((zaLeader S).1 = 0 → b9.toInt = (zaLeader S).2.1) ∧ rSt (n + 1) (zaLeader S).2.2 sv β len T μ9 ∧ lJ (n + 1) (zaLeader S).2.2 sv := by
  have hB := zB_lt hn
  obtain ⟨⟨b9, μ9⟩, h1, hp⟩ := mX7_leader_ok h.1
  obtain ⟨hF, hc, hv, hR⟩ := id hp
  exact ⟨b9, μ9, gMet.Q hI ⟨rfl, rfl⟩ (kX7_leader l D tc sa ad hI  μ b9 μ9 h1), hc, hv, rSt.post h hF hR (by omega) hn, ⟨by rw [zs_Leader]; exact hZ.1.up (by omega), fun S9 h9 => (hZ.2 S9 h9).up (by omega)⟩⟩
theorem rC_winner (hI : gI gE_R ad) (h : rSt n S sv β len T μ) (hZ : lJ n S sv) (hn : n ≤ 600) : ∃ (b9 : Int32) (μ9 : gM), gMetG l yX7_winner cX7_winner 3 (some .int) ({ frames := 1, cells := 0, slots := 0, locals := 22 } : Room) D gE_R gkd_R tc ad rhQ sa [.ref (ad 0 0), .int a1] μ (gSame gE_R gkd_R ad rhQ (some (.int b9)) μ9) ∧ (μ9 0 0 0).toInt = (zaWin S a1.toInt).1 ∧ ((zaWin S a1.toInt).1 = 0 → b9.toInt = (zaWin S a1.toInt).2.1) ∧ rSt (n + 1) (zaWin S a1.toInt).2.2 sv β len T μ9 ∧ lJ (n + 1) (zaWin S a1.toInt).2.2 sv := by
  have hB := zB_lt hn
  obtain ⟨⟨b9, μ9⟩, h1, hp⟩ := mX7_winner_ok h.1
  obtain ⟨hF, hc, hv, hR⟩ := id hp
  exact ⟨b9, μ9, gMet.Q hI ⟨rfl, rfl⟩ (kX7_winner l D tc sa ad hI a1 μ b9 μ9 h1), hc, hv, rSt.post h hF hR (by omega) hn, ⟨by rw [zs_Win]; exact hZ.1.up (by omega), fun S9 h9 => (hZ.2 S9 h9).up (by omega)⟩⟩
theorem rC_alike (hI : gI gE_R ad) (h : rSt n S sv β len T μ) (hZ : lJ n S sv) (hn : n ≤ 600) : ∃ (b9 : Int32) (μ9 : gM), gMetG l yX7_alike cX7_alike 5 (some .int) ({ frames := 3, cells := 0, slots := 0, locals := 67 } : Room) D gE_R gkd_R tc ad rhQ sa [.ref (ad 0 0), .int a1, .int a2] μ (gSame gE_R gkd_R ad rhQ (some (.int b9)) μ9) ∧ (μ9 0 0 0).toInt = (zaAlike S a1.toInt a2.toInt).1 ∧ ((zaAlike S a1.toInt a2.toInt).1 = 0 → b9.toInt = (zaAlike S a1.toInt a2.toInt).2.1) ∧ rSt (n + 1) (zaAlike S a1.toInt a2.toInt).2.2 sv β len T μ9 ∧ lJ (n + 1) (zaAlike S a1.toInt a2.toInt).2.2 sv := by
  have hB := zB_lt hn
  obtain ⟨⟨b9, μ9⟩, h1, hp⟩ := mX7_alike_ok (a1 := a1) (a2 := a2) h.1
  obtain ⟨hF, hc, hv, hR⟩ := id hp
  exact ⟨b9, μ9, gMet.Q hI ⟨rfl, rfl⟩ (kX7_alike l D tc sa ad hI a1 a2 μ b9 μ9 h1), hc, hv, rSt.post h hF hR (by omega) hn, ⟨by rw [zs_Alike]; exact hZ.1.up (by omega), fun S9 h9 => (hZ.2 S9 h9).up (by omega)⟩⟩
theorem rC_statistic (hI : gI gE_R ad) (h : rSt n S sv β len T μ) (hZ : lJ n S sv) (hn : n ≤ 600) : ∃ (b9 : Int32) (μ9 : gM), gMetG l yX7_statistic cX7_statistic 2 (some .int) ({ frames := 1, cells := 0, slots := 0, locals := 22 } : Room) D gE_R gkd_R tc ad rhQ sa [.ref (ad 0 0), .int a1] μ (gSame gE_R gkd_R ad rhQ (some (.int b9)) μ9) ∧ (μ9 0 0 0).toInt = (zaStat S a1.toInt).1 ∧ ((zaStat S a1.toInt).1 = 0 → b9.toInt = (zaStat S a1.toInt).2.1) ∧ rSt (n + 1) (zaStat S a1.toInt).2.2 sv β len T μ9 ∧ lJ (n + 1) (zaStat S a1.toInt).2.2 sv := by
  have hB := zB_lt hn
  obtain ⟨⟨b9, μ9⟩, h1, hp⟩ := mX7_statistic_ok h.1
  obtain ⟨hF, hc, hv, hR⟩ := id hp
  exact ⟨b9, μ9, gMet.Q hI ⟨rfl, rfl⟩ (kX7_statistic l D tc sa ad hI a1 μ b9 μ9 h1), hc, hv, rSt.post h hF hR (by omega) hn, ⟨by rw [zs_Stat]; exact hZ.1.up (by omega), fun S9 h9 => (hZ.2 S9 h9).up (by omega)⟩⟩
theorem rC_thrown (hI : gI gE_R ad) : gMetG l yX7_thrown cX7_thrown 1 (some .int) ({ frames := 0, cells := 0, slots := 0, locals := 0 } : Room) D gE_R gkd_R tc ad rhQ sa [.ref (ad 0 0)] μ (gSame gE_R gkd_R ad rhQ (some (.int (μ 0 0 0))) μ) := gMet.Q hI ⟨rfl, rfl⟩ (kX7_thrown l D tc sa ad hI μ _ rfl)
theorem rC_share (hI : gI gE_R ad) (h : rSt n S sv β len T μ) (hZ : lJ n S sv) (hn : n ≤ 600) : ∃ (b9 : UInt64) (μ9 : gM), gMetG l yX7_share cX7_share 7 (some .double) ({ frames := 5, cells := 0, slots := 0, locals := 113 } : Room) D gE_R gkd_R tc ad rhQ sa [.ref (ad 0 0), .int a1] μ (gSame gE_R gkd_R ad rhQ (some (.double b9)) μ9) ∧ (μ9 0 0 0).toInt = (zaShare S a1.toInt).1 ∧ ((zaShare S a1.toInt).1 = 0 → b9 = (zaShare S a1.toInt).2) ∧ rSt (n + 1) S sv β len T μ9 ∧ lJ (n + 1) S sv := by
  have hB := zB_lt hn
  obtain ⟨⟨b9, μ9⟩, h1, hF, hc, hv, hR⟩ := mX7_share_ok (a1 := a1) h.1 (by omega)
  exact ⟨b9, μ9, gMet.Q hI ⟨rfl, rfl⟩ (kX7_share l D tc sa ad hI a1 μ b9 μ9 h1), hc, hv, rSt.post h hF hR (by omega) hn, lJ.keep hZ⟩
theorem rC_feed (hI : gI gE_R ad) (h : rSt n S sv β len T μ) (hZ : lJ n S sv) (hn : n ≤ 600) (hch : vp_nar .char a1 = a1) : ∃ (b9 : Int32) (μ9 : gM), gMetG l yX7_feed cX7_feed 2 (some .int) ({ frames := 1, cells := 0, slots := 0, locals := 22 } : Room) D gE_R gkd_R tc ad rhQ sa [.ref (ad 0 0), .int a1] μ (gSame gE_R gkd_R ad rhQ (some (.int b9)) μ9) ∧ (μ9 0 0 0).toInt = (zFeed β len a1).1 ∧ ((zFeed β len a1).1 = 0 → b9.toInt = (zFeed β len a1).2.1) ∧ rSt (n + 1) S sv (zFeed β len a1).2.2.1 (zFeed β len a1).2.2.2 T μ9 ∧ lJ (n + 1) S sv := by
  have hB := zB_lt hn
  have hl80 := h.2.2.1.2.1
  obtain ⟨⟨b9, μ9⟩, h1, hF, h80, hlt⟩ := mX7_feed_ok (a1 := a1) h.2.2.1 hch
  have hF : gFr (fun f i j => i = 0 ∧ (f = 0 ∧ (j = 0 ∨ j = 6) ∨ f = 5)) μ μ9 := hF
  have e : ∀ f i j, f ≠ 5 → ¬ (f = 0 ∧ (j = 0 ∨ j = 6)) → μ9 f i j = μ f i j := fun f i j h1 h2 => hF f i j (fun z => z.2.elim (fun z => h2 z) (fun z => h1 z))
  refine ⟨b9, μ9, gMet.Q hI ⟨rfl, rfl⟩ (kX7_feed l D tc sa ad hI a1 μ b9 μ9 h1), ?_⟩
  by_cases hc : len < 80
  · rw [show zFeed β len a1 = (0, ((len + 1 : Nat) : Int), upd β len a1, len + 1) from if_pos hc]
    obtain ⟨g1, g2, g3⟩ := hlt hc
    exact ⟨g1, fun _ => g2, rSt.bu h e g3 hn, lJ.keep hZ⟩
  · rw [show zFeed β len a1 = (1, 0, β, len) from if_neg hc]
    obtain ⟨g1, g3⟩ := h80 (by omega)
    exact ⟨g1, fun z => absurd (show (1 : Nat) = 0 from z) (by decide), rSt.bu h e g3 hn, lJ.keep hZ⟩
theorem rC_perform (hI : gI gE_R ad) (h : rSt n S sv β len T μ) (hZ : lJ n S sv) (hn : n ≤ 600) : ∃ (b9 : Int32) (μ9 : gM), gMetG l yX7_perform cX7_perform 3 (some .int) ({ frames := 13, cells := 0, slots := 0, locals := 291 } : Room) D gE_R gkd_R tc ad rhQ sa [.ref (ad 0 0)] μ (gSame gE_R gkd_R ad rhQ (some (.int b9)) μ9) ∧ (μ9 0 0 0).toInt = (zaPerf β len S).1 ∧ ((zaPerf β len S).1 = 0 → b9.toInt = (zaPerf β len S).2.1) ∧ rSt (n + 1) (zaPerf β len S).2.2 sv β 0 T μ9 ∧ lJ (n + 1) (zaPerf β len S).2.2 sv := by
  have hB := zB_lt hn
  obtain ⟨⟨b9, μ9⟩, h1, hF, hc, hv, hR, h6⟩ := mX7_perform_ok h.2.2.1 h.1 (by omega)
  have hF : gFr pfP μ μ9 := hF
  have h6 : μ9 0 0 6 = 0 := h6
  refine ⟨b9, μ9, gMet.Q hI ⟨rfl, rfl⟩ (kX7_perform l D tc sa ad hI μ b9 μ9 h1), hc, hv, ⟨hR.up (by rw [zB_1]; omega) (by rw [zB_1]; omega), ?_, ⟨by rw [h6]; rfl, by omega, fun i hi => absurd hi (Nat.not_lt_zero i)⟩, ?_⟩, ⟨hZ.1.next hR.2.1 (by omega) (zw_aPerf hZ.1.1 h.2.2.1.2.1), fun S9 h9 => (hZ.2 S9 h9).up (by omega)⟩⟩
  · have e3 : μ9 0 0 3 = μ 0 0 3 := hF 0 0 3 (fun z => by unfold pfP at z; omega)
    have e2 : μ9 2 0 = μ 2 0 := funext fun j => hF 2 0 j (fun z => by unfold pfP at z; omega)
    exact rSv.cg h.2.1 e3 e2 hn
  · exact TxR.cg h.2.2.2 (hF 0 0 13 (fun z => by unfold pfP at z; omega)) (funext fun j => hF 12 0 j (fun z => by unfold pfP at z; omega))
theorem rC_text (hI : gI gE_R ad) (h : rSt n S sv β len T μ) (hZ : lJ n S sv) (hn : n ≤ 600) : ∃ (b9 : Int32) (μ9 : gM), gMetG l yX7_text cX7_text 2 (some .char) ({ frames := 1, cells := 0, slots := 0, locals := 22 } : Room) D gE_R gkd_R tc ad rhQ sa [.ref (ad 0 0), .int a1] μ (gSame gE_R gkd_R ad rhQ (some (.int b9)) μ9) ∧ (μ9 0 0 0).toInt = ((if 0 ≤ a1.toInt ∧ a1.toInt < T.length then 0 else 1 : Nat) : Int) ∧ (0 ≤ a1.toInt ∧ a1.toInt < T.length → b9 = nI (T.getD a1.toInt.toNat 0)) ∧ rSt (n + 1) S sv β len T μ9 ∧ lJ (n + 1) S sv := by
  have hB := zB_lt hn
  obtain ⟨⟨b9, μ9⟩, h1, hF, hc, hv⟩ := mX7_text_ok (a1 := a1) h.2.2.2
  have hF : gFr (fun f i j => f = 0 ∧ i = 0 ∧ j = 0) μ μ9 := hF
  refine ⟨b9, μ9, gMet.Q hI ⟨rfl, rfl⟩ (kX7_text l D tc sa ad hI a1 μ b9 μ9 h1), ?_, hv, rSt.bu h (fun f i j h1 h2 => hF f i j (fun z => h2 ⟨z.1, Or.inl z.2.2⟩)) ⟨by rw [hF 0 0 6 (by omega)]; exact h.2.2.1.1, h.2.2.1.2.1, fun i hi => by rw [hF 5 0 i (by omega)]; exact h.2.2.1.2.2 i hi⟩ hn, lJ.keep hZ⟩
  have hc : (μ9 0 0 0).toInt = (if 0 ≤ a1.toInt ∧ a1.toInt < T.length then 0 else 1) := hc
  rw [hc]
  split <;> rfl
theorem rC_save (hI : gI gE_R ad) (h : rSt n S sv β len T μ) (hZ : lJ n S sv) (hn : n ≤ 600) : ∃ (b9 : Int32) (μ9 : gM), gMetG l yX7_save cX7_save 1 (some .int) ({ frames := 1, cells := 0, slots := 0, locals := 22 } : Room) D gE_R gkd_R tc ad rhQ sa [.ref (ad 0 0)] μ (gSame gE_R gkd_R ad rhQ (some (.int b9)) μ9) ∧ b9.toInt = (zti S : Int) ∧ rSt (n + 1) S (some S) β len T μ9 ∧ lJ (n + 1) S (some S) := by
  have hB := zB_lt hn
  obtain ⟨⟨b9, μ9⟩, h1, hv, h0, h3, hR1, hR2, hF⟩ := mX7_save_ok h.1
  have hF : ∀ f i j, ¬ (f = 0 ∧ i = 0 ∧ (j = 0 ∨ j = 3)) → ¬ (f = 2 ∧ i = 0) → μ9 f i j = μ f i j := hF
  exact ⟨b9, μ9, gMet.Q hI ⟨rfl, rfl⟩ (kX7_save l D tc sa ad hI μ b9 μ9 h1), hv, ⟨RZ.nx hR1 (by omega) hn, Or.inr ⟨S, rfl, h3, RZ.nx hR2 (by omega) hn⟩, ⟨by rw [hF 0 0 6 (by omega) (by omega)]; exact h.2.2.1.1, h.2.2.1.2.1, fun i hi => by rw [hF 5 0 i (by omega) (by omega)]; exact h.2.2.1.2.2 i hi⟩, TxR.cg h.2.2.2 (hF 0 0 13 (by omega) (by omega)) (funext fun j => hF 12 0 j (by omega) (by omega))⟩, ⟨hZ.1.up (by omega), fun S9 h9 => by cases h9; exact hZ.1.up (by omega)⟩⟩
theorem rC_restore_y {S9 : sqSt} (hI : gI gE_R ad) (h : rSt n S sv β len T μ) (hZ : lJ n S sv) (hn : n ≤ 600) (hsv9 : sv = some S9) : ∃ (b9 : Int32) (μ9 : gM), gMetG l yX7_restore cX7_restore 1 (some .int) ({ frames := 1, cells := 0, slots := 0, locals := 22 } : Room) D gE_R gkd_R tc ad rhQ sa [.ref (ad 0 0)] μ (gSame gE_R gkd_R ad rhQ (some (.int b9)) μ9) ∧ (μ9 0 0 0).toInt = ((0 : Nat) : Int) ∧ b9.toInt = (zti S9 : Int) ∧ rSt (n + 1) S9 sv β len T μ9 ∧ lJ (n + 1) S9 sv := by
  have hB := zB_lt hn
  rcases h.2.1 with ⟨hs1, h3⟩ | ⟨S8, hs1, h3, hR8⟩
  · rw [hs1] at hsv9
    cases hsv9
  · have e8 : S8 = S9 := Option.some.inj (hs1.symm.trans hsv9)
    subst e8
    obtain ⟨⟨b9, μ9⟩, h1, hv, h0, hR, hF⟩ := mX7_restore_yes hR8 h3
    have hF : ∀ f i j, ¬ (f = 0 ∧ i = 0 ∧ j = 0) → ¬ (f = 1 ∧ i = 0) → μ9 f i j = μ f i j := hF
    have h0 : μ9 0 0 0 = 0 := h0
    exact ⟨b9, μ9, gMet.Q hI ⟨rfl, rfl⟩ (kX7_restore l D tc sa ad hI μ b9 μ9 h1), by rw [h0]; rfl, hv, ⟨RZ.nx hR (by omega) hn, Or.inr ⟨_, hs1, (hF 0 0 3 (by omega) (by omega)).trans h3, by rw [show μ9 2 0 = μ 2 0 from funext fun j => hF 2 0 j (by omega) (by omega)]; exact RZ.nx hR8 (by omega) hn⟩, ⟨by rw [hF 0 0 6 (by omega) (by omega)]; exact h.2.2.1.1, h.2.2.1.2.1, fun i hi => by rw [hF 5 0 i (by omega) (by omega)]; exact h.2.2.1.2.2 i hi⟩, TxR.cg h.2.2.2 (hF 0 0 13 (by omega) (by omega)) (funext fun j => hF 12 0 j (by omega) (by omega))⟩, ⟨(hZ.2 _ hs1).up (by omega), fun S7 h7 => (hZ.2 S7 h7).up (by omega)⟩⟩
theorem rC_restore_n (hI : gI gE_R ad) (h : rSt n S sv β len T μ) (hZ : lJ n S sv) (hn : n ≤ 600) (hsv9 : sv = none) : ∃ (b9 : Int32) (μ9 : gM), gMetG l yX7_restore cX7_restore 1 (some .int) ({ frames := 1, cells := 0, slots := 0, locals := 22 } : Room) D gE_R gkd_R tc ad rhQ sa [.ref (ad 0 0)] μ (gSame gE_R gkd_R ad rhQ (some (.int b9)) μ9) ∧ (μ9 0 0 0).toInt = ((1 : Nat) : Int) ∧ rSt (n + 1) S sv β len T μ9 ∧ lJ (n + 1) S sv := by
  have hB := zB_lt hn
  rcases h.2.1 with ⟨hs1, h3⟩ | ⟨S8, hs1, h3, hR8⟩
  · obtain ⟨⟨b9, μ9⟩, h1, hp⟩ := mX7_restore_no h.1 h3
    obtain ⟨hF, hc, hv, hR⟩ := id hp
    exact ⟨b9, μ9, gMet.Q hI ⟨rfl, rfl⟩ (kX7_restore l D tc sa ad hI μ b9 μ9 h1), hc, rSt.post h hF hR (by omega) hn, lJ.keep hZ⟩
  · rw [hs1] at hsv9
    cases hsv9
theorem rC_write_y {k : Nat} (hI : gI gE_R ad) (h : rSt n S sv β len T μ) (hZ : lJ n S sv) (hn : n ≤ 600) (hk : k < 5) (h1 : a1.toInt = (k : Int)) : ∃ (μ9 : gM), gMetG l yX7_write cX7_write 2 (some .int) ({ frames := 15, cells := 200, slots := 2000, locals := 1500 } : Room) D gE_R gkd_R tc ad rhQ sa [.ref (ad 0 0), .int a1] μ (gSame gE_R gkd_R ad rhQ (some (.int (nI (txL (zno S k)).length))) μ9) ∧ (μ9 0 0 0).toInt = ((0 : Nat) : Int) ∧ (txL (zno S k)).length ≤ 700 ∧ rSt (n + 1) S sv β len (txL (zno S k)) μ9 ∧ lJ (n + 1) S sv := by
  have hB := zB_lt hn
  obtain ⟨b1, b2, b3⟩ := RZ.bd h.1 hk
  have hle : (txL (zno S k)).length ≤ 700 := by
    have := txK_le (zno S k) ((nlg (zno S k)).length - nbs (zno S k))
    unfold txL
    omega
  have h13 : ∀ L : List Nat, wT (w3 (w3 μ 0 0 0 0) 0 0 13 0) 0 L 0 0 13 = nI L.length := fun L => by
    rw [wT_cnt L (show (w3 (w3 μ 0 0 0 0) 0 0 13 0) 0 0 13 = nI 0 from w3_at _ _ _ _ _), Nat.zero_add]
  have h0k : ∀ (L : List Nat) (k : Nat), k ≠ 13 → k ≠ 0 → wT (w3 (w3 μ 0 0 0 0) 0 0 13 0) 0 L 0 0 k = μ 0 0 k := fun L k q1 q2 => by
    rw [wT_0 q1]
    unfold w3
    rw [if_neg (by omega), if_neg (by omega)]
  have ho : ∀ (L : List Nat) (f i : Nat), f ≠ 12 → f ≠ 0 → wT (w3 (w3 μ 0 0 0 0) 0 0 13 0) 0 L f i = μ f i := fun L f i q1 q2 => by
    rw [wT_o q1 q2, w3_ne (by omega), w3_ne (by omega)]
  refine ⟨_, gMetG.Q hI (kX7_write l D tc sa hI h.1.1 h.1.2.1.2 (by omega) hk h1 b2 b1), ?_, hle, ⟨?_, ?_, ?_, ?_⟩, lJ.keep hZ⟩
  · rw [wT_0 (by decide)]
    have : w3 (w3 μ 0 0 0 0) 0 0 13 0 0 0 0 = 0 := by
      unfold w3
      rw [if_neg (by omega), if_pos ⟨rfl, rfl, rfl⟩]
    rw [this]; rfl
  · rw [ho _ 1 0 (by decide) (by decide)]
    exact RZ.nx h.1 (by omega) hn
  · exact rSv.cg h.2.1 (h0k _ 3 (by decide) (by decide)) (ho _ 2 0 (by decide) (by decide)) hn
  · exact ⟨by rw [h0k _ 6 (by decide) (by decide)]; exact h.2.2.1.1, h.2.2.1.2.1, fun i hi => by rw [ho _ 5 0 (by decide) (by decide)]; exact h.2.2.1.2.2 i hi⟩
  · refine ⟨by rw [h13, nI_toInt (by omega)], hle, fun i hi => ?_⟩
    have e := wT_at (txL (zno S k)) (w3 (w3 μ 0 0 0 0) 0 0 13 0) 0 i hi
    rw [Nat.zero_add] at e
    have hc : (txL (zno S k)).getD i 0 < 256 := by
      rw [List.getD_eq_getElem?_getD, List.getElem?_eq_getElem hi]
      exact txK_lt _ _ _ (List.getElem_mem hi)
    exact ⟨e, Value.int.inj (pk_charN (by omega)).1⟩
theorem rC_write_n (hI : gI gE_R ad) (h : rSt n S sv β len T μ) (hZ : lJ n S sv) (hn : n ≤ 600) (h1 : ¬ (0 ≤ a1.toInt ∧ a1.toInt < 5)) : ∃ (μ9 : gM), gMetG l yX7_write cX7_write 2 (some .int) ({ frames := 15, cells := 200, slots := 2000, locals := 1500 } : Room) D gE_R gkd_R tc ad rhQ sa [.ref (ad 0 0), .int a1] μ (gSame gE_R gkd_R ad rhQ (some (.int 0)) μ9) ∧ (μ9 0 0 0).toInt = ((1 : Nat) : Int) ∧ rSt (n + 1) S sv β len T μ9 ∧ lJ (n + 1) S sv := by
  have hB := zB_lt hn
  have e : ∀ f i, f ≠ 0 → w3 μ 0 0 0 1 f i = μ f i := fun f i q => w3_ne (by omega)
  have e0 : ∀ k, k ≠ 0 → w3 μ 0 0 0 1 0 0 k = μ 0 0 k := fun k q => by unfold w3; rw [if_neg (by omega)]
  refine ⟨_, gMetG.Q hI (kX7_writeX l D tc sa hI h1), by rw [w3_000]; rfl, ⟨?_, ?_, ?_, ?_⟩, lJ.keep hZ⟩
  · rw [e 1 0 (by decide)]
    exact RZ.nx h.1 (by omega) hn
  · exact rSv.cg h.2.1 (e0 3 (by decide)) (e 2 0 (by decide)) hn
  · exact ⟨by rw [e0 6 (by decide)]; exact h.2.2.1.1, h.2.2.1.2.1, fun i hi => by rw [e 5 0 (by decide)]; exact h.2.2.1.2.2 i hi⟩
  · exact TxR.cg h.2.2.2 (e0 13 (by decide)) (e 12 0 (by decide))
end SqRc1
section SqRc2
variable {l : Launch} {D : va_G} {tc : Nat → ClassId} {sa : Nat → Nat} {cc : ByteArray} {y : MethodName} {maxL : Nat} {ret : Option FieldType} {rm : Room} {av : List Value} {Ea Eb : List (Nat × Nat)} {kda kdb : Nat → gKd} {ada adb : Nat → Nat → Nat} {rha rhb : gRh} {μa μb : gM} {P : gPo}
/-- a contract over the second of two worlds, over both -/
def twoPo (Ea : List (Nat × Nat)) (kda : Nat → gKd) (ada : Nat → Nat → Nat) (rha : gRh) (μa : gM) (P : gPo) : gPo := fun o E1 kd1 ad1 rh1 μ1 => ∃ (Eb1 : List (Nat × Nat)) (kdb1 : Nat → gKd) (adb1 : Nat → Nat → Nat) (rhb1 : gRh) (μb1 : gM), P o Eb1 kdb1 adb1 rhb1 μb1 ∧ gI (mxE Ea Eb1) (mxA ada adb1) ∧ E1 = mxE Ea Eb1 ∧ kd1 = mxK kda kdb1 ∧ ad1 = mxA ada adb1 ∧ rh1 = mxR rha rhb1 ∧ μ1 = mxM μa μb1
theorem gMetG.two (hI : gI (mxE Ea Eb) (mxA ada adb)) (hL : mxL Ea rha) (h : gMetG l y cc maxL ret rm D Eb kdb tc adb rhb sa av μb P) : gMetG l y cc maxL ret rm D (mxE Ea Eb) (mxK kda kdb) tc (mxA ada adb) (mxR rha rhb) sa av (mxM μa μb) (twoPo Ea kda ada rha μa P) := by
  intro sz
  have hAB : ∀ q, gA Eb adb sz q → gA (mxE Ea Eb) (mxA ada adb) sz q := fun q h => by
    rcases h with ⟨f, i, h1, h2⟩ | h
    · exact Or.inl ⟨f + 30, i, mxE_b h1, by rw [mxA_b]; exact h2⟩
    · exact Or.inr h
  refine MetFree.mono (h sz) (fun a s0 q => ⟨q.1, q.2.1, gP_conv2 (fun f i h => ⟨f + 30, i, mxE_b h, mxA_b.symm, mx_gb.symm⟩) q.2.2.1, gEV.narrow hAB q.2.2.2⟩) (fun _ _ _ _ _ q => q) (fun a st oc t hp h2 => ?_)
  obtain ⟨-, hsz, hP, -⟩ := hp
  obtain ⟨⟨o1, E1, kd1, ad1, rh1, μ1, h3, h3b, h4, h5, h6, h7⟩, Lc, hfe, hL2⟩ := h2
  have hlta : ∀ f i, (f, i) ∈ Ea → ada f i < sz := fun f i h => by
    have h9 := g_lt hP (mxE_a h)
    rw [mxA_a (hL.1 f i h), hsz] at h9
    exact h9
  have hI2 : gI (mxE Ea E1) (mxA ada ad1) := gI_mx hL.1 (gI_mxa hL.1 hI) h4 (fun f i f' i' h1 h2 z => by
    rcases h5 f' i' h2 with ⟨f2, i2, h3, h4⟩ | h3
    · exact mx_sep hL.1 hI f i f2 i2 h1 h3 (by rw [← h4]; exact z)
    · have := hlta f i h1
      omega)
  refine ⟨⟨o1, _, _, _, _, _, h3, ⟨E1, kd1, ad1, rh1, μ1, h3b, hI2, rfl, rfl, rfl, rfl, rfl⟩, hI2, fun f i hf => ?_, fun k0 q0 hk => ?_, ?_⟩, Lc, hfe, fun q hq => hAB _ (hL2 q hq)⟩
  · rcases mxE_in.mp hf with h9 | ⟨f0, h9, rfl⟩
    · exact Or.inl ⟨f, i, mxE_a h9, by rw [mxA_a (hL.1 f i h9), mxA_a (hL.1 f i h9)]⟩
    · rw [mxA_b]
      exact hAB _ (h5 f0 i h9)
  · obtain ⟨f, i, h8, rfl⟩ := g_w_mem.mp (List.mem_of_getElem? hk)
    rcases mxE_in.mp h8 with h9 | ⟨f0, h9, rfl⟩
    · rw [mx_ga hL h9, mxA_a (hL.1 f i h9)]
      obtain ⟨k1, -, h10⟩ := g_at (kd := mxK kda kdb) (tc := tc) (ad := mxA ada adb) (rh := mxR rha rhb) (μ := mxM μa μb) (mxE_a (b := Eb) h9)
      have h11 := hP k1 _ h10
      rw [mx_ga hL h9, mxA_a (hL.1 f i h9)] at h11
      exact h11.kept (h7.2 _ (by rw [hsz]; exact hlta f i h9) (fun z => by
        rcases z with ⟨a, b, z1, z2⟩ | z1
        · exact mx_sep hL.1 hI f i a b h9 z1 z2
        · have := hlta f i h9; omega))
    · rw [mx_gb, mxA_b]
      obtain ⟨k1, -, h10⟩ := g_at (kd := kd1) (tc := tc) (ad := ad1) (rh := rh1) (μ := μ1) h9
      exact h6 k1 _ h10
  · exact ⟨h7.1, fun q h8 h9 => h7.2 q h8 (fun z => h9 (hAB q z))⟩
theorem gMetG.imp {E : List (Nat × Nat)} {kd : Nat → gKd} {ad : Nat → Nat → Nat} {rh : gRh} {μ : gM} {P' : gPo} (h : gMetG l y cc maxL ret rm D E kd tc ad rh sa av μ P) (hp : ∀ o E1 kd1 ad1 rh1 μ1, P o E1 kd1 ad1 rh1 μ1 → P' o E1 kd1 ad1 rh1 μ1) : gMetG l y cc maxL ret rm D E kd tc ad rh sa av μ P' := by
  intro sz
  refine MetFree.mono (h sz) (fun _ _ q => q) (fun _ _ _ _ _ q => q) (fun a st oc t _ h2 => ⟨?_, h2.2⟩)
  obtain ⟨⟨o1, E1, kd1, ad1, rh1, μ1, h3, h3b, h4⟩, -⟩ := h2
  exact ⟨o1, E1, kd1, ad1, rh1, μ1, h3, hp _ _ _ _ _ _ h3b, h4⟩
/-- the class answers v, and is as cSt says -/
def cPo1 (a0 : Nat) (v : Int) (S : sqSt) (sv : Option sqSt) (β : Nat → Int32) (len : Nat) (T : List Nat) : gPo := fun o E1 kd1 ad1 rh1 μ1 => ∃ r : Int32, o = some (.int r) ∧ r.toInt = v ∧ cSt a0 S sv β len T E1 kd1 ad1 rh1 μ1
variable {S : sqSt} {sv : Option sqSt} {β : Nat → Int32} {len n a0 : Nat} {T : List Nat} {E : List (Nat × Nat)} {kd : Nat → gKd} {ad : Nat → Nat → Nat} {rh : gRh} {μ : gM}
theorem cSt_recv (h : cSt a0 S sv β len T E kd ad rh μ) : (30, 0) ∈ E ∧ kd 30 = .inl (10, 4, [0, 1, 2, 3]) ∧ ad 30 0 = a0 ∧ gI E ad := by
  obtain ⟨nc, cp, N0, ada, adb, ml, arr, μc, rfl, rfl, rfl, rfl, rfl, rfl, hw, -⟩ := h
  exact ⟨mxE_b (eC0 (nc := nc)), rfl, rfl, hw.1⟩
theorem cC_messages (hS : cSt a0 S sv β len T E kd ad rh μ) : gMetG l yX6_messages cX6_messages 1 (some .int) ({ frames := 0, cells := 0, slots := 0, locals := 0 } : Room) D E kd tc ad rh sa [.ref a0] μ (cPo1 a0 ((zms S).length : Int) S sv β len T) := by
  obtain ⟨nc, cp, N0, ada, adb, ml, arr, μc, rfl, rfl, rfl, rfl, rfl, rfl, hw, hR, hBu, hsv⟩ := hS
  have hIb := gI_mxb hw.1
  obtain ⟨r, hr, hv⟩ := mX6_messages_ok (nc := nc) hR
  refine gMetG.imp (gMetG.two hw.1 mxL_sE (gMet.G hIb ⟨rfl, rfl⟩ (kX6_messages l D tc sa adb nc (hsv_nc hsv) hIb μc r hr))) (fun o E1 kd1 ad1 rh1 μ1 h => ?_)
  obtain ⟨Eb1, kdb1, adb1, rhb1, μb1, ⟨rfl, rfl, rfl, rfl, rfl, rfl⟩, -, rfl, rfl, rfl, rfl, rfl⟩ := h
  exact ⟨r, rfl, hv, cSt_fr hw hBu hsv gFr.rf hR⟩
theorem cC_save (hS : cSt a0 S sv β len T E kd ad rh μ) (hZ : zJ n S) (hn : n ≤ 600) : ∃ rm : Room, rm.frames ≤ 12 ∧ rm.cells ≤ 213 ∧ rm.slots ≤ 1935 ∧ rm.locals ≤ 900 ∧ gMetG l yX6_save cX6_save 1 (some .int) rm D E kd tc ad rh sa [.ref a0] μ (cPo1 a0 (zti S : Int) S (some S) β len T) := by
  obtain ⟨nc, cp, N0, ada, adb, ml, arr, μc, rfl, rfl, rfl, rfl, rfl, rfl, hw, hR, hBu, hsv⟩ := hS
  have hIb := gI_mxb hw.1
  have hBn := zB_lt hn
  have hY : RY (zB n) μc 0 S := ⟨hR, hZ.1, by omega⟩
  rcases hsv with ⟨rfl, hs1⟩ | ⟨rfl, S8, hs1, hR8⟩
  · refine ⟨_, Nat.le_of_ble_eq_true rfl, Nat.le_of_ble_eq_true rfl, Nat.le_of_ble_eq_true rfl, Nat.le_of_ble_eq_true rfl, gMetG.imp (gMetG.two hw.1 mxL_sE (kX6_save1 l D tc sa hIb hY)) (fun o E1 kd1 ad1 rh1 μ1 h => ?_)⟩
    obtain ⟨Eb1, kdb1, adb1, rhb1, μb1, ⟨r, rfl, hv, rfl, rfl, e0, e23, rfl, R0, R1, e1, e2⟩, hI2, rfl, rfl, rfl, rfl, rfl⟩ := h
    exact ⟨r, rfl, hv, ⟨2, cp, N0, ada, adb1, ml, arr, μb1, rfl, rfl, rfl, rfl, rfl, e0, ⟨hI2, hw.2.1.trans e23.symm, hw.2.2⟩, R0, ⟨by rw [e1]; exact hBu.1, hBu.2.1, fun i hi => by rw [e2]; exact hBu.2.2 i hi⟩, Or.inr ⟨rfl, S, rfl, R1⟩⟩⟩
  · obtain ⟨⟨r, μ9⟩, hr, F9, hv, R0, R1⟩ := mX6_save_ok (nc := 2) hY hR8.w rfl
    have F9 : gFr (rbP 1) μc μ9 := F9
    have e12 : ∀ f, f ≤ 5 → μ9 f 0 = μc f 0 := fun f hf => funext fun j => F9 f 0 j (fun z => by have := rbP_6 z; omega)
    refine ⟨_, Nat.le_of_ble_eq_true rfl, Nat.le_of_ble_eq_true rfl, Nat.le_of_ble_eq_true rfl, Nat.le_of_ble_eq_true rfl, gMetG.imp (gMetG.two hw.1 mxL_sE (gMet.G hIb ⟨rfl, rfl⟩ (kX6_save l D tc sa adb 2 (by decide) hIb rfl μc r μ9 hr))) (fun o E1 kd1 ad1 rh1 μ1 h => ?_)⟩
    obtain ⟨Eb1, kdb1, adb1, rhb1, μb1, ⟨rfl, rfl, rfl, rfl, rfl, rfl⟩, -, rfl, rfl, rfl, rfl, rfl⟩ := h
    exact ⟨r, rfl, hv, ⟨2, cp, N0, ada, adb1, ml, arr, μb1, rfl, rfl, rfl, rfl, rfl, rfl, hw, R0, ⟨by rw [e12 1 (by omega)]; exact hBu.1, hBu.2.1, fun i hi => by rw [e12 2 (by omega)]; exact hBu.2.2 i hi⟩, Or.inr ⟨rfl, S, rfl, R1⟩⟩⟩
end SqRc2
