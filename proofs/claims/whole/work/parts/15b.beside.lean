/-! calls beside the law's two arrays -/
section JX2
variable {p : Program} {l : Launch} {e : Env} {R : Room} {s : State} {m : MethodId} {args : Array Value} {below : List Frame} {meth : Method} {c : Code} {cc : ByteArray} {nL : Nat} {own : String} {D : va_G} {E : List (Nat × Nat)} {kd : Nat → gKd} {tc : Nat → ClassId} {ad : Nat → Nat → Nat} {rh : gRh} {sa : Nat → Nat} {A : Nat → Prop} {H0 : Heap} {cells slots : Nat} {Q : State → Prop} {μ : gM} {pc : Nat} {lv : List (Nat × Value)} {st : List Value} {cJ cD : ClassId} {x1 x2 : Nat} {v8 : Int64} {d8 : UInt64}
theorem JX_runG {Ec : List (Nat × Nat)} {kdc : Nat → gKd} {adc : Nat → Nat → Nat} {rhc : gRh} {μc : gM} {mc ms : Nat} {P : gPo} {rest av st0 : List Value}
    (hsub : ∀ f i, (f, i) ∈ Ec → ∃ f' i', (f', i') ∈ E ∧ adc f i = ad f' i' ∧ g_e kdc tc adc rhc (μc f i) f i = g_e kd tc ad rh (μ f' i') f' i')
    (hrun : ∀ (H : Heap) (locs : List Loc) (ls : Array Slot), Cx p s m args c cc nL own D E kd tc ad rh sa A H0 → va_P D vwCl (g_w E kd tc ad rh μ) H → va_S A H0 H locs → lv_has ls nL lv → FrameBlind (gPc D Ec kdc tc adc rhc sa H.size av μc) → (∀ U : State, U.heap = H → s.WarmedH U.vm → gPc D Ec kdc tc adc rhc sa H.size av μc av.toArray U) → va_Run p l e R s m args below meth c H locs cells slots mc ms (F0 m pc ls st0) rest (gQG D tc Ec adc H.size P av.toArray) (gA Ec adc H.size))
    (k : ∀ (o : Option Value) (E1 : List (Nat × Nat)) (kd1 : Nat → gKd) (ad1 : Nat → Nat → Nat) (rh1 : gRh) (μ1 : gM), P o E1 kd1 ad1 rh1 μ1 → gI E1 ad1 → (∀ f i, (f, i) ∈ E1 → (∃ f' i', (f', i') ∈ Ec ∧ ad1 f i = adc f' i') ∨ ∀ f' i', (f', i') ∈ E → ad f' i' ≠ ad1 f i) →
      ∃ (E2 : List (Nat × Nat)) (kd2 : Nat → gKd) (ad2 : Nat → Nat → Nat) (rh2 : gRh) (μ2 : gM), gI E2 ad2 ∧ (∀ f i, (f, i) ∈ E2 → (∃ f' i', (f', i') ∈ E1 ∧ ad2 f i = ad1 f' i' ∧ g_e kd2 tc ad2 rh2 (μ2 f i) f i = g_e kd1 tc ad1 rh1 (μ1 f' i') f' i') ∨ ∃ f' i', (f', i') ∈ E ∧ (∀ a b, (a, b) ∈ Ec → adc a b ≠ ad f' i') ∧ ad2 f i = ad f' i' ∧ g_e kd2 tc ad2 rh2 (μ2 f i) f i = g_e kd tc ad rh (μ f' i') f' i') ∧
        JX cJ cD x1 x2 v8 d8 p l e R s m args below meth c cc nL own D E2 kd2 tc ad2 rh2 sa A H0 (cells + mc) (slots + ms) Q μ2 (pc + 3) lv (o.toList ++ rest)) : JX cJ cD x1 x2 v8 d8 p l e R s m args below meth c cc nL own D E kd tc ad rh sa A H0 cells slots Q μ pc lv st0 := by
  intro H locs ls C hP hX hS hl
  have hmem : ∀ f i, (f, i) ∈ E → A (ad f i) := fun f i h => by
    obtain ⟨k1, -, h4⟩ := g_at (kd := kd) (tc := tc) (ad := ad) (rh := rh) (μ := μ) h
    exact (C.2.2.2.2.2.2.1 μ).2 k1 _ h4
  have hA1 : ∀ q, gA Ec adc H.size q → A q := fun q h => by
    rcases h with ⟨f, i, h1, rfl⟩ | h
    · obtain ⟨f', i', h2, h3, -⟩ := hsub f i h1
      rw [h3]
      exact hmem f' i' h2
    · exact C.2.2.2.2.2.2.2 q (Nat.le_trans hS.1 h)
  have hr := hrun H locs ls C hP hS hl gPc_blind (fun U hU hW => ⟨rfl, by rw [hU], by rw [hU]; exact gP_conv2 hsub hP, gEV.call C.2.2.2.2.2.1 hS hA1 hU hW⟩)
  intro T hT X
  obtain ⟨v, st₀, t, T', L, h0, X', hL, e1, e2, ⟨o, E1, kd1, ad1, rh1, μ1, hv, hp, hI1, hin1, hP1, hz, hk⟩, stp⟩ := hr T hT X
  cases hv
  rw [h0] at hz hk
  obtain ⟨E2, kd2, ad2, rh2, μ2, hI2, h2, kk⟩ := k v E1 kd1 ad1 rh1 μ1 hp hI1 (fun f i h => by
    rcases hin1 f i h with ⟨f', i', h5, h6⟩ | h5
    · exact Or.inl ⟨f', i', h5, h6⟩
    · refine Or.inr (fun f' i' h6 => ?_)
      have := g_lt hP h6
      omega)
  have hA2 : ∀ f i, (f, i) ∈ E1 → A (ad1 f i) := fun f i h => hA1 _ (hin1 f i h)
  obtain ⟨t2, a1, b1⟩ := kk T'.heap (locs ++ L) ls ⟨C.1, C.2.1, C.2.2.1, C.2.2.2.1, C.2.2.2.2.1, C.2.2.2.2.2.1, fun μ' => ⟨(g_D (sz := 0) hI2 μ').1, fun k0 q0 h3 => by
      obtain ⟨f, i, h4, rfl⟩ := g_w_mem.mp (List.mem_of_getElem? h3)
      show A (ad2 f i)
      rcases h2 f i h4 with ⟨f', i', h5, h6, -⟩ | ⟨f', i', h5, -, h6, -⟩
      · rw [h6]; exact hA2 f' i' h5
      · rw [h6]; exact hmem f' i' h5⟩, C.2.2.2.2.2.2.2⟩ (fun k0 q0 h3 => by
      obtain ⟨f, i, h4, rfl⟩ := g_w_mem.mp (List.mem_of_getElem? h3)
      rw [e1]
      rcases h2 f i h4 with ⟨f', i', h5, h6, h7⟩ | ⟨f', i', h5, h8, h6, h7⟩
      · rw [h6, h7]
        obtain ⟨k1, -, h9⟩ := g_at (kd := kd1) (tc := tc) (ad := ad1) (rh := rh1) (μ := μ1) h5
        exact hP1 k1 _ h9
      · rw [h6, h7]
        obtain ⟨k1, -, h9⟩ := g_at (kd := kd) (tc := tc) (ad := ad) (rh := rh) (μ := μ) h5
        have hlt := g_lt hP h5
        exact (hP k1 _ h9).kept (hk _ hlt (fun z => by
          rcases z with ⟨a, b, z1, z2⟩ | z1
          · exact h8 a b z1 z2.symm
          · omega)))
    ⟨hX.1, xl_kept hX.2.1 (by rw [e1]; exact hk _ (xl_lt hX.2.1).1 (fun z => by
        rcases z with ⟨a, b, z1, z2⟩ | z1
        · obtain ⟨f', i', z3, z4, -⟩ := hsub a b z1
          exact (hX.2.2.2.2.2 f' i' z3).1 (by rw [← z4, ← z2])
        · have := (xl_lt hX.2.1).1; omega)) (by rw [e1]; exact hk _ (xl_lt hX.2.1).2 (fun z => by
        rcases z with ⟨a, b, z1, z2⟩ | z1
        · obtain ⟨f', i', z3, z4, -⟩ := hsub a b z1
          exact (hX.2.2.2.2.2 f' i' z3).2 (by rw [← z4, ← z2])
        · have := (xl_lt hX.2.1).2; omega)), hX.2.2.1, hX.2.2.2.1, hX.2.2.2.2.1, fun f i hf => by
      rcases h2 f i hf with ⟨f', i', h5, h6, -⟩ | ⟨f', i', h5, -, h6, -⟩
      · rw [h6]
        rcases hin1 f' i' h5 with ⟨a, b, z1, z2⟩ | z1
        · obtain ⟨f3, i3, z3, z4, -⟩ := hsub a b z1
          rw [z2, z4]
          exact hX.2.2.2.2.2 f3 i3 z3
        · have := xl_lt hX.2.1
          exact ⟨by omega, by omega⟩
      · rw [h6]
        exact hX.2.2.2.2.2 f' i' h5⟩
    ⟨Nat.le_trans hS.1 (by rw [e1]; exact hz), fun q h3 h4 => by rw [e1, hk q (Nat.lt_of_lt_of_le h3 hS.1) (fun z => h4 (hA1 q z))]; exact hS.2.1 q h3 h4, fun q hq => by
      rcases List.mem_append.mp hq with h | h
      · exact hS.2.2 q h
      · exact hA1 _ (hL q h)⟩ hl T' rfl X'
  exact ⟨t2, stp t2 a1, b1⟩
theorem JX_conv2 {E1 : List (Nat × Nat)} {kd1 : Nat → gKd} {ad1 : Nat → Nat → Nat} {rh1 : gRh} {μ1 : gM} (hI : gI E1 ad1) (h : ∀ f i, (f, i) ∈ E1 → ∃ f' i', (f', i') ∈ E ∧ ad1 f i = ad f' i' ∧ g_e kd1 tc ad1 rh1 (μ1 f i) f i = g_e kd tc ad rh (μ f' i') f' i') (k : JX cJ cD x1 x2 v8 d8 p l e R s m args below meth c cc nL own D E1 kd1 tc ad1 rh1 sa A H0 cells slots Q μ1 pc lv st) : JX cJ cD x1 x2 v8 d8 p l e R s m args below meth c cc nL own D E kd tc ad rh sa A H0 cells slots Q μ pc lv st := by
  intro H locs ls C hP hX hS hl
  refine k H locs ls ⟨C.1, C.2.1, C.2.2.1, C.2.2.2.1, C.2.2.2.2.1, C.2.2.2.2.2.1, fun μ' => ⟨(g_D (sz := 0) hI μ').1, fun k0 q0 h0 => ?_⟩, C.2.2.2.2.2.2.2⟩ (gP_conv2 h hP) (hX.cg (fun f i hf => by
    obtain ⟨f', i', h2, h3, -⟩ := h f i hf
    exact ⟨f', i', h2, h3⟩)) hS hl
  obtain ⟨f, i, h1, rfl⟩ := g_w_mem.mp (List.mem_of_getElem? h0)
  obtain ⟨f', i', h2, h3, -⟩ := h f i h1
  obtain ⟨k1, -, h4⟩ := g_at (kd := kd) (tc := tc) (ad := ad) (rh := rh) (μ := μ) h2
  show A (ad1 f i)
  rw [h3]
  exact (C.2.2.2.2.2.2.1 μ).2 k1 _ h4
theorem JX_runE {mc ms : Nat} {P : gPo} {av st0 : List Value} (hrun : gRunH p l e R s m args below meth c cc nL own D E kd tc ad rh sa A H0 cells slots μ pc lv E kd ad rh μ mc ms P st av st0)
    (k : ∀ (o : Option Value) (E1 : List (Nat × Nat)) (kd1 : Nat → gKd) (ad1 : Nat → Nat → Nat) (rh1 : gRh) (μ1 : gM), P o E1 kd1 ad1 rh1 μ1 → gI E1 ad1 → (∀ f i, (f, i) ∈ E1 → (∃ f' i', (f', i') ∈ E ∧ ad1 f i = ad f' i') ∨ ∀ f' i', (f', i') ∈ E → ad f' i' ≠ ad1 f i) → JX cJ cD x1 x2 v8 d8 p l e R s m args below meth c cc nL own D E1 kd1 tc ad1 rh1 sa A H0 (cells + mc) (slots + ms) Q μ1 (pc + 3) lv (o.toList ++ st)) : JX cJ cD x1 x2 v8 d8 p l e R s m args below meth c cc nL own D E kd tc ad rh sa A H0 cells slots Q μ pc lv st0 :=
  JX_runG (fun f i h => ⟨f, i, h, rfl, rfl⟩) hrun (fun o E1 kd1 ad1 rh1 μ1 hp hI hf => ⟨E1, kd1, ad1, rh1, μ1, hI, fun f i h => Or.inl ⟨f, i, h, rfl, rfl⟩, k o E1 kd1 ad1 rh1 μ1 hp hI hf⟩)
theorem JX_runM {mc ms : Nat} {av st0 st1 : List Value} {o : Option Value} {μ1 : gM} (hrun : gRunH p l e R s m args below meth c cc nL own D E kd tc ad rh sa A H0 cells slots μ pc lv E kd ad rh μ mc ms (gSame E kd ad rh o μ1) st av st0) {pc1 : Nat} (hp : pc + 3 = pc1) (hs : o.toList ++ st = st1) {ce sl : Nat} (h1 : cells + mc = ce) (h2 : slots + ms = sl) (k : JX cJ cD x1 x2 v8 d8 p l e R s m args below meth c cc nL own D E kd tc ad rh sa A H0 ce sl Q μ1 pc1 lv st1) : JX cJ cD x1 x2 v8 d8 p l e R s m args below meth c cc nL own D E kd tc ad rh sa A H0 cells slots Q μ pc lv st0 := by
  subst hp; subst hs; subst h1; subst h2
  refine JX_runE hrun (fun o2 E1 kd1 ad1 rh1 μ2 hp hI hf => ?_)
  obtain ⟨rfl, rfl, rfl, rfl, rfl, rfl⟩ := hp
  exact k
end JX2
section JX3
variable {p : Program} {l : Launch} {e : Env} {R : Room} {s : State} {m : MethodId} {args : Array Value} {below : List Frame} {meth : Method} {c : Code} {cc : ByteArray} {nL : Nat} {own : String} {D : va_G} {Ea Eb : List (Nat × Nat)} {kda kdb : Nat → gKd} {tc : Nat → ClassId} {ada adb : Nat → Nat → Nat} {rha rhb : gRh} {sa : Nat → Nat} {A : Nat → Prop} {H0 : Heap} {cells slots : Nat} {Q : State → Prop} {μa μb : gM} {pc : Nat} {lv : List (Nat × Value)} {st : List Value} {cJ cD : ClassId} {x1 x2 : Nat} {v8 : Int64} {d8 : UInt64}
theorem JX_mixA {mc ms : Nat} {P : gPo} {av st0 : List Value} {pc1 ce sl : Nat} (hI : gI (mxE Ea Eb) (mxA ada adb)) (hL : mxL Ea rha)
    (hrun : gRunH p l e R s m args below meth c cc nL own D (mxE Ea Eb) (mxK kda kdb) tc (mxA ada adb) (mxR rha rhb) sa A H0 cells slots (mxM μa μb) pc lv Ea kda ada rha μa mc ms P st av st0) (hp : pc + 3 = pc1) (h1 : cells + mc = ce) (h2 : slots + ms = sl)
    (hP : ∀ o E1 kd1 ad1 rh1 μ1, P o E1 kd1 ad1 rh1 μ1 → mxL E1 rh1)
    (k : ∀ (o : Option Value) (E1 : List (Nat × Nat)) (kd1 : Nat → gKd) (ad1 : Nat → Nat → Nat) (rh1 : gRh) (μ1 : gM), P o E1 kd1 ad1 rh1 μ1 → gI (mxE E1 Eb) (mxA ad1 adb) → JX cJ cD x1 x2 v8 d8 p l e R s m args below meth c cc nL own D (mxE E1 Eb) (mxK kd1 kdb) tc (mxA ad1 adb) (mxR rh1 rhb) sa A H0 ce sl Q (mxM μ1 μb) pc1 lv (o.toList ++ st)) : JX cJ cD x1 x2 v8 d8 p l e R s m args below meth c cc nL own D (mxE Ea Eb) (mxK kda kdb) tc (mxA ada adb) (mxR rha rhb) sa A H0 cells slots Q (mxM μa μb) pc lv st0 := by
  subst hp; subst h1; subst h2
  refine JX_runG (fun f i h => ⟨f, i, mxE_a h, (mxA_a (hL.1 f i h)).symm, (mx_ga hL h).symm⟩) hrun (fun o E1 kd1 ad1 rh1 μ1 hp hI1 hf => ?_)
  have hL1 := hP _ _ _ _ _ _ hp
  have hI2 : gI (mxE E1 Eb) (mxA ad1 adb) := gI_mx hL1.1 hI1 (gI_mxb hI) (fun f i f' i' h1 h2 z => by
    rcases hf f i h1 with ⟨f2, i2, h3, h4⟩ | h3
    · exact mx_sep hL.1 hI f2 i2 f' i' h3 h2 (by rw [← h4]; exact z)
    · exact h3 (f' + 30) i' (mxE_b h2) (by rw [mxA_b]; exact z.symm))
  refine ⟨mxE E1 Eb, mxK kd1 kdb, mxA ad1 adb, mxR rh1 rhb, mxM μ1 μb, hI2, fun f i h => ?_, k o E1 kd1 ad1 rh1 μ1 hp hI2⟩
  rcases mxE_in.mp h with h3 | ⟨f0, h3, rfl⟩
  · exact Or.inl ⟨f, i, h3, mxA_a (hL1.1 f i h3), mx_ga hL1 h3⟩
  · refine Or.inr ⟨f0 + 30, i, mxE_b h3, fun a b hab z => ?_, by rw [mxA_b, mxA_b], by rw [mx_gb, mx_gb]⟩
    rw [mxA_b] at z
    exact mx_sep hL.1 hI a b f0 i hab h3 z
theorem JX_mixAM {mc ms : Nat} {av st0 st1 : List Value} {o : Option Value} {μ1 : gM} {pc1 ce sl : Nat} (hI : gI (mxE Ea Eb) (mxA ada adb)) (hL : mxL Ea rha)
    (hrun : gRunH p l e R s m args below meth c cc nL own D (mxE Ea Eb) (mxK kda kdb) tc (mxA ada adb) (mxR rha rhb) sa A H0 cells slots (mxM μa μb) pc lv Ea kda ada rha μa mc ms (gSame Ea kda ada rha o μ1) st av st0) (hp : pc + 3 = pc1) (hs : o.toList ++ st = st1) (h1 : cells + mc = ce) (h2 : slots + ms = sl) (k : JX cJ cD x1 x2 v8 d8 p l e R s m args below meth c cc nL own D (mxE Ea Eb) (mxK kda kdb) tc (mxA ada adb) (mxR rha rhb) sa A H0 ce sl Q (mxM μ1 μb) pc1 lv st1) : JX cJ cD x1 x2 v8 d8 p l e R s m args below meth c cc nL own D (mxE Ea Eb) (mxK kda kdb) tc (mxA ada adb) (mxR rha rhb) sa A H0 cells slots Q (mxM μa μb) pc lv st0 := by
  subst hs
  refine JX_mixA hI hL hrun hp h1 h2 (fun o E1 kd1 ad1 rh1 μ1 hp => ?_) (fun o1 E1 kd1 ad1 rh1 μ3 hp hI1 => ?_)
  · obtain ⟨rfl, rfl, rfl, rfl, rfl, rfl⟩ := hp
    exact hL
  · obtain ⟨rfl, rfl, rfl, rfl, rfl, rfl⟩ := hp
    exact k
theorem JX_mixB {mc ms : Nat} {av st0 st1 : List Value} {o : Option Value} {μ1 : gM} {pc1 ce sl : Nat} (hI : gI (mxE Ea Eb) (mxA ada adb)) (hL : mxL Ea rha)
    (hrun : gRunH p l e R s m args below meth c cc nL own D (mxE Ea Eb) (mxK kda kdb) tc (mxA ada adb) (mxR rha rhb) sa A H0 cells slots (mxM μa μb) pc lv Eb kdb adb rhb μb mc ms (gSame Eb kdb adb rhb o μ1) st av st0) (hp : pc + 3 = pc1) (hs : o.toList ++ st = st1) (h1 : cells + mc = ce) (h2 : slots + ms = sl) (k : JX cJ cD x1 x2 v8 d8 p l e R s m args below meth c cc nL own D (mxE Ea Eb) (mxK kda kdb) tc (mxA ada adb) (mxR rha rhb) sa A H0 ce sl Q (mxM μa μ1) pc1 lv st1) : JX cJ cD x1 x2 v8 d8 p l e R s m args below meth c cc nL own D (mxE Ea Eb) (mxK kda kdb) tc (mxA ada adb) (mxR rha rhb) sa A H0 cells slots Q (mxM μa μb) pc lv st0 := by
  subst hs; subst hp; subst h1; subst h2
  refine JX_runG (fun f i h => ⟨f + 30, i, mxE_b h, mxA_b.symm, mx_gb.symm⟩) hrun (fun o1 E1 kd1 ad1 rh1 μ3 hp hI1 hf => ?_)
  obtain ⟨rfl, rfl, rfl, rfl, rfl, rfl⟩ := hp
  refine ⟨mxE Ea E1, mxK kda kd1, mxA ada ad1, mxR rha rh1, mxM μa μ3, hI, fun f i h => ?_, k⟩
  rcases mxE_in.mp h with h3 | ⟨f0, h3, rfl⟩
  · refine Or.inr ⟨f, i, mxE_a h3, fun a b hab z => ?_, rfl, by rw [mx_ga hL h3, mx_ga hL h3]⟩
    rw [mxA_a (hL.1 f i h3)] at z
    exact mx_sep hL.1 hI f i a b h3 hab z.symm
  · exact Or.inl ⟨f0, i, h3, mxA_b, mx_gb⟩
theorem JX_mixBG {mc ms : Nat} {P : gPo} {av st0 : List Value} {pc1 ce sl : Nat} (hI : gI (mxE Ea Eb) (mxA ada adb)) (hL : mxL Ea rha)
    (hrun : gRunH p l e R s m args below meth c cc nL own D (mxE Ea Eb) (mxK kda kdb) tc (mxA ada adb) (mxR rha rhb) sa A H0 cells slots (mxM μa μb) pc lv Eb kdb adb rhb μb mc ms P st av st0) (hp : pc + 3 = pc1) (h1 : cells + mc = ce) (h2 : slots + ms = sl)
    (k : ∀ (o : Option Value) (E1 : List (Nat × Nat)) (kd1 : Nat → gKd) (ad1 : Nat → Nat → Nat) (rh1 : gRh) (μ1 : gM), P o E1 kd1 ad1 rh1 μ1 → gI (mxE Ea E1) (mxA ada ad1) → JX cJ cD x1 x2 v8 d8 p l e R s m args below meth c cc nL own D (mxE Ea E1) (mxK kda kd1) tc (mxA ada ad1) (mxR rha rh1) sa A H0 ce sl Q (mxM μa μ1) pc1 lv (o.toList ++ st)) : JX cJ cD x1 x2 v8 d8 p l e R s m args below meth c cc nL own D (mxE Ea Eb) (mxK kda kdb) tc (mxA ada adb) (mxR rha rhb) sa A H0 cells slots Q (mxM μa μb) pc lv st0 := by
  subst hp; subst h1; subst h2
  refine JX_runG (fun f i h => ⟨f + 30, i, mxE_b h, mxA_b.symm, mx_gb.symm⟩) hrun (fun o E1 kd1 ad1 rh1 μ1 hp hI1 hf => ?_)
  have hI2 : gI (mxE Ea E1) (mxA ada ad1) := gI_mx hL.1 (gI_mxa hL.1 hI) hI1 (fun f i f' i' h1 h2 z => by
    rcases hf f' i' h2 with ⟨f2, i2, h3, h4⟩ | h3
    · exact mx_sep hL.1 hI f i f2 i2 h1 h3 (by rw [← h4]; exact z)
    · exact h3 f i (mxE_a h1) (by rw [mxA_a (hL.1 f i h1)]; exact z))
  refine ⟨mxE Ea E1, mxK kda kd1, mxA ada ad1, mxR rha rh1, mxM μa μ1, hI2, fun f i h => ?_, k o E1 kd1 ad1 rh1 μ1 hp hI2⟩
  rcases mxE_in.mp h with h3 | ⟨f0, h3, rfl⟩
  · refine Or.inr ⟨f, i, mxE_a h3, fun a b hab z => ?_, by rw [mxA_a (hL.1 f i h3), mxA_a (hL.1 f i h3)], by rw [mx_ga hL h3, mx_ga hL h3]⟩
    rw [mxA_a (hL.1 f i h3)] at z
    exact mx_sep hL.1 hI f i a b h3 hab z.symm
  · exact Or.inl ⟨f0, i, h3, mxA_b, mx_gb⟩
theorem J_mixBG {mc ms : Nat} {P : gPo} {av st0 : List Value} {pc1 ce sl : Nat} (hI : gI (mxE Ea Eb) (mxA ada adb)) (hL : mxL Ea rha)
    (hrun : gRunH p l e R s m args below meth c cc nL own D (mxE Ea Eb) (mxK kda kdb) tc (mxA ada adb) (mxR rha rhb) sa A H0 cells slots (mxM μa μb) pc lv Eb kdb adb rhb μb mc ms P st av st0) (hp : pc + 3 = pc1) (h1 : cells + mc = ce) (h2 : slots + ms = sl)
    (k : ∀ (o : Option Value) (E1 : List (Nat × Nat)) (kd1 : Nat → gKd) (ad1 : Nat → Nat → Nat) (rh1 : gRh) (μ1 : gM), P o E1 kd1 ad1 rh1 μ1 → gI (mxE Ea E1) (mxA ada ad1) → J p l e R s m args below meth c cc nL own D (mxE Ea E1) (mxK kda kd1) tc (mxA ada ad1) (mxR rha rh1) sa A H0 ce sl Q (mxM μa μ1) pc1 lv (o.toList ++ st)) : J p l e R s m args below meth c cc nL own D (mxE Ea Eb) (mxK kda kdb) tc (mxA ada adb) (mxR rha rhb) sa A H0 cells slots Q (mxM μa μb) pc lv st0 := by
  subst hp; subst h1; subst h2
  refine J_runG (fun f i h => ⟨f + 30, i, mxE_b h, mxA_b.symm, mx_gb.symm⟩) hrun (fun o E1 kd1 ad1 rh1 μ1 hp hI1 hf => ?_)
  have hI2 : gI (mxE Ea E1) (mxA ada ad1) := gI_mx hL.1 (gI_mxa hL.1 hI) hI1 (fun f i f' i' h1 h2 z => by
    rcases hf f' i' h2 with ⟨f2, i2, h3, h4⟩ | h3
    · exact mx_sep hL.1 hI f i f2 i2 h1 h3 (by rw [← h4]; exact z)
    · exact h3 f i (mxE_a h1) (by rw [mxA_a (hL.1 f i h1)]; exact z))
  refine ⟨mxE Ea E1, mxK kda kd1, mxA ada ad1, mxR rha rh1, mxM μa μ1, hI2, fun f i h => ?_, k o E1 kd1 ad1 rh1 μ1 hp hI2⟩
  rcases mxE_in.mp h with h3 | ⟨f0, h3, rfl⟩
  · refine Or.inr ⟨f, i, mxE_a h3, fun a b hab z => ?_, by rw [mxA_a (hL.1 f i h3), mxA_a (hL.1 f i h3)], by rw [mx_ga hL h3, mx_ga hL h3]⟩
    rw [mxA_a (hL.1 f i h3)] at z
    exact mx_sep hL.1 hI f i a b h3 hab z.symm
  · exact Or.inl ⟨f0, i, h3, mxA_b, mx_gb⟩
end JX3
/-- a method of the law: over the world and the two arrays; h: its handlers -/
abbrev lPo : Type := Option Value → List (Nat × Nat) → (Nat → gKd) → (Nat → Nat → Nat) → gRh → gM → Int64 → UInt64 → Prop
def wA (E : List (Nat × Nat)) (ad : Nat → Nat → Nat) (x1 x2 sz : Nat) : Nat → Prop := fun q => gA E ad sz q ∨ q = x1 ∨ q = x2
def wPc (D : va_G) (E : List (Nat × Nat)) (kd : Nat → gKd) (tc : Nat → ClassId) (ad : Nat → Nat → Nat) (rh : gRh) (sa : Nat → Nat) (cJ cD : ClassId) (x1 x2 : Nat) (v8 : Int64) (d8 : UInt64) (sz : Nat) (av : List Value) (μ : gM) : Array Value → State → Prop := va_Pc av (fun U => U.heap.size = sz ∧ va_P D vwCl (g_w E kd tc ad rh μ) U.heap ∧ HX D tc cJ cD U x1 x2 v8 d8 E ad (wA E ad x1 x2 sz) U.heap ∧ gEV D tc sa (wA E ad x1 x2 sz) U U.heap)
def wQ (D : va_G) (tc : Nat → ClassId) (cJ cD : ClassId) (x1 x2 : Nat) (E : List (Nat × Nat)) (ad : Nat → Nat → Nat) (sz : Nat) (P : lPo) : Array Value → State → Outcome → State → Prop := fun _ st oc t =>
  ∃ (o : Option Value) (E1 : List (Nat × Nat)) (kd1 : Nat → gKd) (ad1 : Nat → Nat → Nat) (rh1 : gRh) (μ1 : gM) (w8 : Int64) (e8 : UInt64), oc = .returned o ∧ P o E1 kd1 ad1 rh1 μ1 w8 e8 ∧ gI E1 ad1 ∧ (∀ f i, (f, i) ∈ E1 → gA E ad sz (ad1 f i)) ∧ va_P D vwCl (g_w E1 kd1 tc ad1 rh1 μ1) t.heap ∧ va_P D vwCl (xl cJ cD x1 x2 w8 e8) t.heap ∧ va_F (wA E ad x1 x2 sz) st t
def wMet (l : Launch) (y : MethodName) (cc : ByteArray) (maxL : Nat) (hh : List (Nat × Nat × Nat × Nat)) (rm : Room) (D : va_G) (E : List (Nat × Nat)) (kd : Nat → gKd) (tc : Nat → ClassId) (ad : Nat → Nat → Nat) (rh : gRh) (sa : Nat → Nat) (cJ cD : ClassId) (x1 x2 : Nat) (v8 : Int64) (d8 : UInt64) (av : List Value) (μ : gM) (P : lPo) : Prop :=
  ∀ sz : Nat, Met l y (.codeWith y cc maxL (some .int) hh :: BIG) rm (wPc D E kd tc ad rh sa cJ cD x1 x2 v8 d8 sz av μ) (wQ D tc cJ cD x1 x2 E ad sz P) rm.cells rm.slots (wA E ad x1 x2 sz)
theorem HX.warm {D : va_G} {tc : Nat → ClassId} {cJ cD : ClassId} {s U : State} {x1 x2 : Nat} {v8 : Int64} {d8 : UInt64} {E : List (Nat × Nat)} {ad : Nat → Nat → Nat} {A : Nat → Prop} {H : Heap} (hW : s.WarmedH U.vm) (h : HX D tc cJ cD s x1 x2 v8 d8 E ad A H) : HX D tc cJ cD U x1 x2 v8 d8 E ad A H := ⟨va_K.moved hW.alike h.1, h.2⟩
theorem wPc_blind {D : va_G} {E : List (Nat × Nat)} {kd : Nat → gKd} {tc : Nat → ClassId} {ad : Nat → Nat → Nat} {rh : gRh} {sa : Nat → Nat} {cJ cD : ClassId} {x1 x2 : Nat} {v8 : Int64} {d8 : UInt64} {sz : Nat} {av : List Value} {μ : gM} : FrameBlind (wPc D E kd tc ad rh sa cJ cD x1 x2 v8 d8 sz av μ) := fun a U g mk q => ⟨q.1, q.2.1, q.2.2.1, HX.warm (s := U) (U := U.calling g mk a) (State.WarmedH.refl U) q.2.2.2.1, gEV.warm (s := U) (U := U.calling g mk a) (State.WarmedH.refl U) q.2.2.2.2⟩
theorem wMet_of {l : Launch} {R : Room} {D : va_G} {E : List (Nat × Nat)} {kd : Nat → gKd} {tc : Nat → ClassId} {ad : Nat → Nat → Nat} {rh : gRh} {sa : Nat → Nat} {cJ cD : ClassId} {x1 x2 : Nat} {v8 : Int64} {d8 : UInt64} {μ : gM} {y : MethodName} {cc : ByteArray} {maxL : Nat} {hh : List (Nat × Nat × Nat × Nat)} {av : List Value} {P : lPo} (hI : gI E ad) (hy : plainName y.cls = true ∧ (lg_sl av).length ≤ maxL)
    (body : ∀ (p : Program) (e : Env) (s : State) (m : MethodId) (args : Array Value) (below : List Frame) (meth : Method) (c : Code) (sz : Nat), meth.sig.returnType = some .int → meth.locks = false → c.exceptionTable.toList = tableOf hh → JX cJ cD x1 x2 v8 d8 p l e R s m args below meth c cc maxL y.cls D E kd tc ad rh sa (wA E ad x1 x2 sz) s.heap 0 0 (MQ below (wQ D tc cJ cD x1 x2 E ad sz P) args s R.cells R.slots (wA E ad x1 x2 sz)) μ 0 (lv_args 0 av) []) : wMet l y cc maxL hh R D E kd tc ad rh sa cJ cD x1 x2 v8 d8 av μ P := by
  intro sz
  refine MetFree.of_bodyS (code := cc) (maxLocals := maxL) (ret := some .int) hy.1 ?_ ?_
  · intro args s m h hn
    obtain ⟨m9, meth, c, hn9, h1, h2, h3, h4, -, h5, h6, -⟩ := Cond.codeWith_spec (atoms_spec (ws := .codeWith y cc maxL (some .int) hh :: BIG) h _ List.mem_cons_self)
    cases hn.symm.trans hn9
    exact ⟨meth, c, h1, h2, h3, h4, h5, h6⟩
  · intro p e s m args below meth c s₁ B hml hP _
    have hh0 : s₁.heap = s.heap := by rw [B.state]; rfl
    obtain ⟨rfl, hsz, hPw, hXw, hK⟩ := hP
    have hts := atoms_spec (ws := .codeWith y cc maxL (some .int) hh :: BIG) B.pre
    have hown : s.vm.findClass y.cls = some m.cls := findClass_of_methodNamed B.named
    have htab := vx_table (x := y) B (hts _ List.mem_cons_self)
    have hl := lv_entry av (n := maxL) hy.2
    have K : W p l e R s m av.toArray below meth c s.heap [] 0 0 (MQ below (wQ D tc cJ cD x1 x2 E ad sz P) av.toArray s R.cells R.slots (wA E ad x1 x2 sz)) (entryFrame m av.toArray maxL) := by
      rw [lg_entry_eq]
      generalize (lg_sl av ++ List.replicate (maxL - (lg_sl av).length) Slot.unset).toArray = ls at hl ⊢
      exact body p e s m _ below meth c sz B.returns B.notSynchronized htab s.heap [] ls ⟨B.exec, B.bytes, hml, hown, fun w hw => hts w (List.mem_cons_of_mem _ hw), by rw [← hsz] at hK ⊢; exact hK, fun μ => ⟨(g_D (sz := sz) hI μ).1, fun k q hk => Or.inl ((g_D (sz := sz) hI μ).2 k q hk)⟩, fun q h => Or.inl (Or.inr (by rw [← hsz]; exact h))⟩ hPw hXw va_S.rf hl
    obtain ⟨t, a1, o, b1, b2, b3⟩ := K s₁ hh0 (Stand.of_body B)
    exact ⟨t, o, a1, b1, b2, ⟨b3.1, b3.2⟩⟩
theorem wGood {y : MethodName} {bytes : ByteArray} {maxL : Nat} {ret : Option FieldType} {hh : List (Nat × Nat × Nat × Nat)} (h : Cond.codeWith y bytes maxL ret hh ∈ BIG) : GoodIn BIG (.codeWith y bytes maxL ret hh :: BIG) := fun w hw => (List.mem_cons.mp hw).elim (fun e => by rw [e]; exact ⟨h, good_of_word (big_good h)⟩) (fun h => ⟨h, good_of_word (big_good h)⟩)
abbrev wCw (y : MethodName) (bytes : ByteArray) (maxL : Nat) (hh : List (Nat × Nat × Nat × Nat)) (n : Nat) : Prop := (Cond.static y ∈ BIG ∧ Cond.initialized y.cls ∈ BIG ∧ Cond.codeWith y bytes maxL (some .int) hh ∈ BIG) ∧ (y.cls ≠ "java/lang/invoke/MethodHandle" ∧ y.cls ≠ "java/lang/invoke/VarHandle" ∧ (parseMethodDescriptor y.desc).map (fun d => d.parameters.length) = some n)
section JX4
variable {p : Program} {l : Launch} {e : Env} {R : Room} {s : State} {m : MethodId} {args : Array Value} {below : List Frame} {meth : Method} {c : Code} {cc : ByteArray} {nL : Nat} {own : String} {D : va_G} {E : List (Nat × Nat)} {kd : Nat → gKd} {tc : Nat → ClassId} {ad : Nat → Nat → Nat} {rh : gRh} {sa : Nat → Nat} {A : Nat → Prop} {H0 : Heap} {cells slots : Nat} {Q : State → Prop} {μ : gM} {pc : Nat} {lv : List (Nat × Value)} {st : List Value} {cJ cD : ClassId} {x1 x2 : Nat} {v8 : Int64} {d8 : UInt64}

theorem JX_iretW {E1 : List (Nat × Nat)} {kd1 : Nat → gKd} {ad1 : Nat → Nat → Nat} {rh1 : gRh} {μ1 : gM} {w8 : Int64} {e8 : UInt64} {sz mc ms : Nat} {P : lPo} {v : Int32} (hr : meth.sig.returnType = some .int) (hlk : meth.locks = false) (hP : P (some (.int v)) E1 kd1 ad1 rh1 μ1 w8 e8) (hI : gI E1 ad1) (hc : cells ≤ mc) (hs : slots ≤ ms) (hdg : decode cc pc = .ok (.ireturn, 1)) : JX cJ cD x1 x2 w8 e8 p l e R s m args below meth c cc nL own D E1 kd1 tc ad1 rh1 sa (wA E ad x1 x2 sz) s.heap cells slots (MQ below (wQ D tc cJ cD x1 x2 E ad sz P) args s mc ms (wA E ad x1 x2 sz)) μ1 pc lv [.int v] := fun H locs ls C hH hX hS hl =>
  W.widen hc hs (W.iret C.1 C.2.1 hr (fun t ht hW => ⟨_, E1, kd1, ad1, rh1, μ1, w8, e8, rfl, hP, hI, fun f i h => by
    obtain ⟨k, -, hk⟩ := g_at (kd := kd1) (tc := tc) (ad := ad1) (rh := rh1) (μ := μ1) h
    have h9 := hX.2.2.2.2.2 f i h
    rcases (C.2.2.2.2.2.2.1 μ1).2 k _ hk with h8 | h8 | h8
    · exact h8
    · exact absurd h8 h9.1
    · exact absurd h8 h9.2, by rw [ht]; exact hH, by rw [ht]; exact hX.2.1, hS.F ht⟩) hS.2.2 hdg hlk)
/-- a call that throws, and is caught here -/
theorem JX_catch {Ec : List (Nat × Nat)} {kdc : Nat → gKd} {adc : Nat → Nat → Nat} {rhc : gRh} {μc μ1 μ2 : gM} {y : MethodName} {bytes : ByteArray} {maxL n idx f i ci n' fc ic i0 h1 ce sl : Nat} {refs : List Nat} {T : u_T} {ret : Option FieldType} {rm : Room} {As : List Value} {C0 : String} {pre suf : List ExceptionTableEntry} {x : ExceptionTableEntry}
    (hM : gMetX l y bytes maxL ret rm D Ec kdc tc adc rhc sa (.ref (adc fc ic) :: As) μc (gX i0) μ1) (hw : wCv y bytes maxL ret n) (hy : y.cls = C0) (hlk : Cond.methodLink own idx y ∈ BIG) (hb : adc fc ic = ad f i) (hE : (f, i) ∈ E) (hk : kd f = .inl (ci, n', refs)) (hc : vwCl[ci]? = some (C0, T, n')) (hn : As.length = n) (hrm : rm.cells = 1 ∧ rm.slots = 6 ∧ rm.frames + 1 ≤ R.frames ∧ 8 + (maxL + 11) + rm.locals ≤ R.locals) (hf : cells + 1 ≤ R.cells ∧ slots + 6 ≤ R.slots) (hst : (st.map fun v => v.category).sum ≤ 8) (hdg : decode cc pc = .ok (.invokevirtual idx, 3))
    (hsub : ∀ f i, (f, i) ∈ Ec → ∃ f' i', (f', i') ∈ E ∧ adc f i = ad f' i' ∧ g_e kdc tc adc rhc (μc f i) f i = g_e kd tc ad rh (μ f' i') f' i')
    (hconv : ∀ f i, (f, i) ∈ E → (∃ f' i', (f', i') ∈ Ec ∧ ad f i = adc f' i' ∧ g_e kd tc ad rh (μ2 f i) f i = g_e kdc tc adc rhc (μ1 f' i') f' i') ∨ ((∀ a b, (a, b) ∈ Ec → adc a b ≠ ad f i) ∧ g_e kd tc ad rh (μ2 f i) f i = g_e kd tc ad rh (μ f i) f i))
    (hi0 : i0 < 6) (hsplit : c.exceptionTable.toList = pre ++ x :: suf) (hpass : ∀ z ∈ pre, z.catchType ≠ 0 ∧ ∃ j, j < 6 ∧ i0 ≠ j ∧ Cond.classLink own z.catchType (gX j) ∈ BIG) (hcov : covers x pc = true) (hx0 : x.catchType ≠ 0) (hxl : Cond.classLink own x.catchType (gX i0) ∈ BIG) (hxh : x.handlerPc = h1) (h2 : cells + 1 = ce) (h3 : slots + 6 = sl)
    (k : ∀ q : Nat, JX cJ cD x1 x2 v8 d8 p l e R s m args below meth c cc nL own D E kd tc ad rh sa A H0 ce sl Q μ2 h1 lv [.ref q]) : JX cJ cD x1 x2 v8 d8 p l e R s m args below meth c cc nL own D E kd tc ad rh sa A H0 cells slots Q μ pc lv (As.reverse ++ .ref (ad f i) :: st) := by
  subst hy; subst h2; subst h3; subst hxh
  intro H locs ls C hP hX hS hl
  obtain ⟨q0, -, hq⟩ := g_at (kd := kd) (tc := tc) (ad := ad) (rh := rh) (μ := μ) hE
  rw [g_fld hk] at hq
  have hwd : ∀ w ∈ BIG, w.before args s = true := C.2.2.2.2.1
  have hrec := va_recv C.2.2.2.2.2.1.1 hP hc hq
  rw [← hb] at hrec ⊢
  have hG := gGood hw.1.2.2.2
  have cw : CallW R s args own y.cls idx y bytes maxL ret (.code y bytes maxL ret :: BIG) rm 1 6 n := ⟨callB_of n hwd hG rfl hrm.1 hrm.2.1 (hwd _ hw.1.2.2.1) (hwd _ hlk) hw.2 hrm.2.2, hwd _ hw.1.1, hwd _ hw.1.2.1⟩
  have hmem : ∀ f i, (f, i) ∈ E → A (ad f i) := fun f i h => by
    obtain ⟨k1, -, h4⟩ := g_at (kd := kd) (tc := tc) (ad := ad) (rh := rh) (μ := μ) h
    exact (C.2.2.2.2.2.2.1 μ).2 k1 _ h4
  have hA1 : ∀ q, gA Ec adc H.size q → A q := fun q h => by
    rcases h with ⟨f, i, h1, rfl⟩ | h
    · obtain ⟨f', i', h2, h3, -⟩ := hsub f i h1
      rw [h3]
      exact hmem f' i' h2
    · exact C.2.2.2.2.2.2.2 q (Nat.le_trans hS.1 h)
  have hr := vx_runV (e := e) (below := below) (meth := meth) (H := H) (locs := locs) (cells := cells) (slots := slots) (g := F0 m pc ls (As.reverse ++ .ref (adc fc ic) :: st)) (As := As) (rest := st) ⟨C.1, C.2.1, C.2.2.1, C.2.2.2.1, hwd⟩ (hM H.size) cw ⟨gPc_blind, hrec, fun U hU hW => ⟨rfl, by rw [hU], by rw [hU]; exact gP_conv2 hsub hP, gEV.call C.2.2.2.2.2.1 hS hA1 hU hW⟩⟩ rfl hn hl.1 rfl (lv_room hst) hdg hf
  intro T hTT X
  rcases hr T hTT X with ⟨v, st₀, t, T', L, h0, X', hL, e1, e2, hfalse, stp⟩ | ⟨q, st₀, t, T', L, E9, ce, h0, X', hL, e1, e2, ⟨hE9, hP1, hF⟩, hce, hcv, hcl, stp⟩
  · exact hfalse.elim
  · obtain ⟨k1, k2, k3⟩ := vx_keep h0 e1 hS (fun q _ => hA1 q) hA1 hL hF
    subst hE9
    have hgx := C.2.2.2.2.2.1.2.2.2.2.2.2.2.2.2.2
    have hcast : (Cond.castable (gX i0) (gX i0)).before args s = true := by
      have h9 : Cond.castable (gX i0) (gX i0) ∈ gXW := by
        unfold gXW
        exact List.mem_append_left _ (List.mem_map.mpr ⟨i0, List.mem_range.mpr hi0, rfl⟩)
      exact va_Nw.use (List.all_eq_true.mp gXW_on _ h9) (hgx.1 _ h9)
    obtain ⟨t2, a1, b1⟩ := vx_catch (p := p) (l := l) (e := e) (R := R) (args := args) (below := below) (meth := meth) (H := T'.heap) (locs := locs ++ L) (cells := cells + 1) (slots := slots + 6) (Q := Q) (pc := pc) (ls := ls) (rest := st) C.2.2.2.1 pre x suf hsplit
      (fun z hz => by
        obtain ⟨z1, j, z2, z3, z4⟩ := hpass z hz
        exact Or.inr ⟨z1, gX j, hwd _ z4, hgx.2.1 i0 j hi0 z2 z3⟩) hcov hx0 (hwd _ hxl) hcast (by rw [e1]; exact hce) hcv hcl
      (k q T'.heap (locs ++ L) ls C (fun k0 q0 h3 => by
        obtain ⟨f, i, h4, rfl⟩ := g_w_mem.mp (List.mem_of_getElem? h3)
        rcases hconv f i h4 with ⟨f', i', h5, h6, h7⟩ | ⟨h8, h7⟩
        · rw [h6, h7, e1]
          obtain ⟨k9, -, h9⟩ := g_at (kd := kdc) (tc := tc) (ad := adc) (rh := rhc) (μ := μ1) h5
          exact hP1 k9 _ h9
        · rw [h7]
          obtain ⟨k9, -, h9⟩ := g_at (kd := kd) (tc := tc) (ad := ad) (rh := rh) (μ := μ) h4
          have hlt := g_lt hP h4
          exact (hP k9 _ h9).kept (k2 _ hlt (fun z => by
            rcases z with ⟨a, b, z1, z2⟩ | z1
            · exact h8 a b z1 z2.symm
            · omega)))
        ⟨hX.1, xl_kept hX.2.1 (k2 _ (xl_lt hX.2.1).1 (fun z => by
          rcases z with ⟨a, b, z1, z2⟩ | z1
          · obtain ⟨f', i', z3, z4, -⟩ := hsub a b z1
            exact (hX.2.2.2.2.2 f' i' z3).1 (by rw [← z4, ← z2])
          · have := (xl_lt hX.2.1).1; omega)) (k2 _ (xl_lt hX.2.1).2 (fun z => by
          rcases z with ⟨a, b, z1, z2⟩ | z1
          · obtain ⟨f', i', z3, z4, -⟩ := hsub a b z1
            exact (hX.2.2.2.2.2 f' i' z3).2 (by rw [← z4, ← z2])
          · have := (xl_lt hX.2.1).2; omega)), hX.2.2⟩ k3 hl) T' rfl X'
    exact ⟨t2, stp.trans a1, b1⟩
end JX4
section JX5
variable {p : Program} {l : Launch} {e : Env} {R : Room} {s : State} {m : MethodId} {args : Array Value} {below : List Frame} {meth : Method} {c : Code} {cc : ByteArray} {nL : Nat} {own : String} {D : va_G} {Ea Eb : List (Nat × Nat)} {kda kdb : Nat → gKd} {tc : Nat → ClassId} {ada adb : Nat → Nat → Nat} {rha rhb : gRh} {sa : Nat → Nat} {A : Nat → Prop} {H0 : Heap} {cells slots : Nat} {Q : State → Prop} {μa μb : gM} {pc : Nat} {lv : List (Nat × Value)} {st : List Value} {cJ cD : ClassId} {x1 x2 : Nat} {v8 : Int64} {d8 : UInt64}

/-- the law calls one of its methods, over the second of two worlds -/
theorem JX_mixBW {y : MethodName} {bytes : ByteArray} {maxL n idx pc1 ce sl : Nat} {hh : List (Nat × Nat × Nat × Nat)} {rm : Room} {P : lPo} {As : List Value} (hI : gI (mxE Ea Eb) (mxA ada adb)) (hL : mxL Ea rha) (hM : wMet l y bytes maxL hh rm D Eb kdb tc adb rhb sa cJ cD x1 x2 v8 d8 As μb P) (hw : wCw y bytes maxL hh n) (hlk : Cond.methodLink own idx y ∈ BIG) (hn : As.length = n) (hrm : rm.frames + 1 ≤ R.frames ∧ 8 + (maxL + 11) + rm.locals ≤ R.locals) (hf : cells + rm.cells ≤ R.cells ∧ slots + rm.slots ≤ R.slots) (hst : (st.map fun v => v.category).sum ≤ 8) (hdg : decode cc pc = .ok (.invokestatic idx, 3)) (hp : pc + 3 = pc1) (h1 : cells + rm.cells = ce) (h2 : slots + rm.slots = sl)
    (k : ∀ (o : Option Value) (E1 : List (Nat × Nat)) (kd1 : Nat → gKd) (ad1 : Nat → Nat → Nat) (rh1 : gRh) (μ1 : gM) (w8 : Int64) (e8 : UInt64), P o E1 kd1 ad1 rh1 μ1 w8 e8 → gI (mxE Ea E1) (mxA ada ad1) → JX cJ cD x1 x2 w8 e8 p l e R s m args below meth c cc nL own D (mxE Ea E1) (mxK kda kd1) tc (mxA ada ad1) (mxR rha rh1) sa A H0 ce sl Q (mxM μa μ1) pc1 lv (o.toList ++ st)) : JX cJ cD x1 x2 v8 d8 p l e R s m args below meth c cc nL own D (mxE Ea Eb) (mxK kda kdb) tc (mxA ada adb) (mxR rha rhb) sa A H0 cells slots Q (mxM μa μb) pc lv (As.reverse ++ st) := by
  subst hp; subst h1; subst h2
  intro H locs ls C hP hX hS hl
  have hwd : ∀ w ∈ BIG, w.before args s = true := C.2.2.2.2.1
  have hG := wGood hw.1.2.2
  have hlen : ∀ sig, parseMethodDescriptor y.desc = some sig → n = sig.parameters.length := fun sig h => by
    have h9 := hw.2.2.2
    rw [h] at h9
    exact (Option.some.inj h9).symm
  have hmem : ∀ f i, (f, i) ∈ mxE Ea Eb → A (mxA ada adb f i) := fun f i h => by
    obtain ⟨k1, -, h4⟩ := g_at (kd := mxK kda kdb) (tc := tc) (ad := mxA ada adb) (rh := mxR rha rhb) (μ := mxM μa μb) h
    exact (C.2.2.2.2.2.2.1 _).2 k1 _ h4
  have hbA : ∀ f i, (f, i) ∈ Eb → A (adb f i) := fun f i h => by
    have h9 := hmem (f + 30) i (mxE_b h)
    rw [mxA_b] at h9
    exact h9
  have hA1 : ∀ q, wA Eb adb x1 x2 H.size q → A q := fun q h => by
    rcases h with (⟨f, i, h1, rfl⟩ | h) | h | h
    · exact hbA f i h1
    · exact C.2.2.2.2.2.2.2 q (Nat.le_trans hS.1 h)
    · rw [h]; exact hX.2.2.2.1
    · rw [h]; exact hX.2.2.2.2.1
  have hbx : ∀ f i, (f, i) ∈ Eb → adb f i ≠ x1 ∧ adb f i ≠ x2 := fun f i h => by
    have h9 := hX.2.2.2.2.2 (f + 30) i (mxE_b h)
    rw [mxA_b] at h9
    exact h9
  have hax : ∀ f i, (f, i) ∈ Ea → ada f i ≠ x1 ∧ ada f i ≠ x2 := fun f i h => by
    have h9 := hX.2.2.2.2.2 f i (mxE_a h)
    rw [mxA_a (hL.1 f i h)] at h9
    exact h9
  have hPb : va_P D vwCl (g_w Eb kdb tc adb rhb μb) H := gP_conv2 (fun f i h => ⟨f + 30, i, mxE_b h, mxA_b.symm, mx_gb.symm⟩) hP
  have hlta : ∀ f i, (f, i) ∈ Ea → ada f i < H.size := fun f i h => by
    have h9 := g_lt hP (mxE_a h)
    rw [mxA_a (hL.1 f i h)] at h9
    exact h9
  have hr := vx_runSW (e := e) (below := below) (meth := meth) (H := H) (locs := locs) (cells := cells) (slots := slots) (g := F0 m pc ls (As.reverse ++ st)) (As := As) (rest := st) (mc := rm.cells) (ms := rm.slots) (n := n) (hh := hh) ⟨C.1, C.2.1, C.2.2.1, C.2.2.2.1, hwd⟩ (hM H.size) ⟨⟨rfl, rfl, hrm.1, hrm.2, pay_in hwd hG, List.mem_cons_self⟩, hwd _ hw.1.2.2, hwd _ hw.1.2.1, ⟨hw.2.1, hw.2.2.1⟩, hlen, hwd _ hlk, hwd _ hw.1.1⟩ ⟨wPc_blind, fun U hU hW => ⟨rfl, by rw [hU], by rw [hU]; exact hPb, ⟨va_K.moved hW.alike hX.1, by rw [hU]; exact hX.2.1, hX.2.2.1, Or.inr (Or.inl rfl), Or.inr (Or.inr rfl), hbx⟩, gEV.call C.2.2.2.2.2.1 hS hA1 hU hW⟩⟩ rfl hn hl.1 rfl (lv_room hst) hdg hf
  intro T hT X
  obtain ⟨v, st₀, t, T', L, h0, X', hL2, e1, e2, ⟨o, E1, kd1, ad1, rh1, μ1, w8, e8, hv, hp, hI1, hin1, hP1, hx1, hz, hk⟩, stp⟩ := hr T hT X
  cases hv
  rw [h0] at hz hk
  have hI2 : gI (mxE Ea E1) (mxA ada ad1) := gI_mx hL.1 (gI_mxa hL.1 hI) hI1 (fun f i f' i' h1 h2 z => by
    rcases hin1 f' i' h2 with ⟨f2, i2, h3, h4⟩ | h3
    · exact mx_sep hL.1 hI f i f2 i2 h1 h3 (by rw [← h4]; exact z)
    · have := hlta f i h1
      omega)
  have h1x : ∀ f i, (f, i) ∈ E1 → ad1 f i ≠ x1 ∧ ad1 f i ≠ x2 := fun f i h => by
    rcases hin1 f i h with ⟨a, b, z1, z2⟩ | z1
    · rw [z2]; exact hbx a b z1
    · have := xl_lt hX.2.1
      exact ⟨by omega, by omega⟩
  obtain ⟨t2, a1, b1⟩ := k v E1 kd1 ad1 rh1 μ1 w8 e8 hp hI2 T'.heap (locs ++ L) ls ⟨C.1, C.2.1, C.2.2.1, C.2.2.2.1, C.2.2.2.2.1, C.2.2.2.2.2.1, fun μ' => ⟨(g_D (sz := 0) hI2 μ').1, fun k0 q0 h3 => by
      obtain ⟨f, i, h4, rfl⟩ := g_w_mem.mp (List.mem_of_getElem? h3)
      show A (mxA ada ad1 f i)
      rcases mxE_in.mp h4 with h5 | ⟨f0, h5, rfl⟩
      · have h9 := hmem f i (mxE_a h5)
        rw [mxA_a (hL.1 f i h5)] at h9 ⊢
        exact h9
      · rw [mxA_b]
        exact hA1 _ (Or.inl (hin1 f0 i h5))⟩, C.2.2.2.2.2.2.2⟩ (fun k0 q0 h3 => by
      obtain ⟨f, i, h4, rfl⟩ := g_w_mem.mp (List.mem_of_getElem? h3)
      rw [e1]
      rcases mxE_in.mp h4 with h5 | ⟨f0, h5, rfl⟩
      · rw [mx_ga hL h5, mxA_a (hL.1 f i h5)]
        obtain ⟨k1, -, h9⟩ := g_at (kd := mxK kda kdb) (tc := tc) (ad := mxA ada adb) (rh := mxR rha rhb) (μ := mxM μa μb) (mxE_a (b := Eb) h5)
        have h8 := hP k1 _ h9
        rw [mx_ga hL h5, mxA_a (hL.1 f i h5)] at h8
        exact h8.kept (hk _ (hlta f i h5) (fun z => by
          rcases z with (⟨a, b, z1, z2⟩ | z1) | z1 | z1
          · exact mx_sep hL.1 hI f i a b h5 z1 z2
          · have := hlta f i h5; omega
          · exact (hax f i h5).1 z1
          · exact (hax f i h5).2 z1))
      · rw [mx_gb, mxA_b]
        obtain ⟨k1, -, h9⟩ := g_at (kd := kd1) (tc := tc) (ad := ad1) (rh := rh1) (μ := μ1) h5
        exact hP1 k1 _ h9)
    ⟨hX.1, by rw [e1]; exact hx1, hX.2.2.1, hX.2.2.2.1, hX.2.2.2.2.1, fun f i hf => by
      rcases mxE_in.mp hf with h5 | ⟨f0, h5, rfl⟩
      · rw [mxA_a (hL.1 f i h5)]
        exact hax f i h5
      · rw [mxA_b]
        exact h1x f0 i h5⟩
    ⟨Nat.le_trans hS.1 (by rw [e1]; exact hz), fun q h3 h4 => by rw [e1, hk q (Nat.lt_of_lt_of_le h3 hS.1) (fun z => h4 (hA1 q z))]; exact hS.2.1 q h3 h4, fun q hq => by
      rcases List.mem_append.mp hq with h | h
      · exact hS.2.2 q h
      · exact hA1 _ (hL2 q h)⟩ hl T' rfl X'
  exact ⟨t2, stp t2 a1, b1⟩
end JX5
