/-! contracts whose world at the end is another one (cells made anew); arrays of bytes; more roads of a call -/
section SB1
variable {p : Program} {l : Launch} {e : Env} {R : Room} {s : State} {m : MethodId} {args : Array Value} {below : List Frame} {meth : Method} {c : Code} {cc : ByteArray} {nL : Nat} {own : String} {D : va_G} {E : List (Nat × Nat)} {kd : Nat → gKd} {tc : Nat → ClassId} {ad : Nat → Nat → Nat} {rh : gRh} {sa : Nat → Nat} {A : Nat → Prop} {H0 : Heap} {cells slots : Nat} {Q : State → Prop} {μ : gM} {pc : Nat} {lv : List (Nat × Value)} {st : List Value}

theorem J_eqI {x y : Int32} (h : x = y) (k : J p l e R s m args below meth c cc nL own D E kd tc ad rh sa A H0 cells slots Q μ pc lv (.int y :: st)) : J p l e R s m args below meth c cc nL own D E kd tc ad rh sa A H0 cells slots Q μ pc lv (.int x :: st) := by
  subst h; exact k
theorem J_i2b {x v : Int32} (hdg : decode cc pc = .ok (.i2b, 1)) (hv : x.toInt8.toInt32 = v) {pc1 : Nat} (hp : pc + 1 = pc1) (k : J p l e R s m args below meth c cc nL own D E kd tc ad rh sa A H0 cells slots Q μ pc1 lv (.int v :: st)) : J p l e R s m args below meth c cc nL own D E kd tc ad rh sa A H0 cells slots Q μ pc lv (.int x :: st) := by
  subst hp
  exact fun H locs ls C hP hS hl => lv_i2b C.1 C.2.1 hdg hv (k H locs ls C hP hS hl)
theorem J_getV {f i ci n idx : Nat} {refs : List Nat} {Cn ref : String} {T : u_T} (k0 : Nat) {v : Int32} (hv : μ f i k0 = v) (hE : (f, i) ∈ E) (hk : kd f = .inl (ci, n, refs)) (hc : vwCl[ci]? = some (Cn, T, n)) (hin : ∀ w ∈ u_ws Cn T n, w ∈ BIG) (hlt : k0 < n) (hr : refs.contains k0 = false) (hw : Cond.fieldLink own idx ref (T k0).2.1 (T k0).2.2.1 ∈ BIG) (href : ref = (T k0).1) (hdg : decode cc pc = .ok (.getfield idx, 3)) {pc1 : Nat} (hp : pc + 3 = pc1) (k : J p l e R s m args below meth c cc nL own D E kd tc ad rh sa A H0 cells slots Q μ pc1 lv (.int v :: st)) : J p l e R s m args below meth c cc nL own D E kd tc ad rh sa A H0 cells slots Q μ pc lv (.ref (ad f i) :: st) := by
  subst hv
  exact J_getI hE hk hc hin k0 hlt hr hw href hdg hp k
theorem J_bald {f i n ix : Nat} {x v : Int32} (hix : x.toNatClampNeg = ix) (hv : μ f i ix = v) (hE : (f, i) ∈ E) (hk : kd f = .inr (.inl (4, n))) (hin : vp_in x n) (hdg : decode cc pc = .ok (.baload, 1)) {pc1 : Nat} (hp : pc + 1 = pc1) (k : J p l e R s m args below meth c cc nL own D E kd tc ad rh sa A H0 cells slots Q μ pc1 lv (.int v :: st)) : J p l e R s m args below meth c cc nL own D E kd tc ad rh sa A H0 cells slots Q μ pc lv (.int x :: .ref (ad f i) :: st) := fun H locs ls C hP hS hl => by
  subst hix; subst hp; subst hv
  obtain ⟨q0, -, hq⟩ := J_ald_aux (tc := tc) (ad := ad) (rh := rh) hE hk μ
  exact va_bald C.1 C.2.1 C.2.2.2.2.2.1.1 hP q0 4 hq rfl hin hdg (k H locs ls C hP hS hl)
theorem J_bast {f i n ix : Nat} {x v z : Int32} (hix : x.toNatClampNeg = ix) (hv : vp_nar .byte v = z) (hE : (f, i) ∈ E) (hk : kd f = .inr (.inl (4, n))) (hin : vp_in x n) (hdg : decode cc pc = .ok (.bastore, 1)) {pc1 : Nat} (hp : pc + 1 = pc1) (k : J p l e R s m args below meth c cc nL own D E kd tc ad rh sa A H0 cells slots Q (w3 μ f i ix z) pc1 lv st) : J p l e R s m args below meth c cc nL own D E kd tc ad rh sa A H0 cells slots Q μ pc lv (.int v :: .int x :: .ref (ad f i) :: st) := fun H locs ls C hP hS hl => by
  subst hix; subst hp
  obtain ⟨q0, h0, hq⟩ := J_ald_aux (tc := tc) (ad := ad) (rh := rh) hE hk μ
  refine va_bast C.1 C.2.1 C.2.2.2.2.2.1.1 hP (C.2.2.2.2.2.2.1 μ) hS q0 4 hq rfl hin hdg (fun H1 locs1 h1 h2 h3 => k H1 locs1 ls C ?_ h3 hl)
  rw [hv, J_st_aux (C.2.2.2.2.2.2.1 μ) h0 hk] at h1
  exact h1
theorem gTc4 {s : State} {cA : ClassId} {cl : List vw_C} (hK : va_K D cl (gT tc) s) (h : s.vm.findClass ("[" ++ FieldType.byte.toString) = some cA) : cA = tc 4 :=
  Option.some.inj (h.symm.trans (hK.2 4 _ rfl).2)
theorem J_newB {n : Int32} {N f0 i0 : Nat} (hf : (f0, i0) ∉ E) (hk : kd f0 = .inr (.inl (4, N))) (hrh : ∀ f i row k, (f, i) ∈ E → rh row f i k ≠ some (f0, i0)) (harr : Cond.arrayClass .byte ∈ BIG) (hn : ¬ n < 0) (hN : n.toNatClampNeg = N) (hb : N * componentBytes .byte ≤ 536870912) (hc : cells + 1 ≤ R.cells) (hs : slots + N ≤ R.slots) (hz : μ f0 i0 = fun _ => 0) (hdg : decode cc pc = .ok (.newarray .byte, 2)) {pc1 : Nat} (hp : pc + 2 = pc1)
    (k : ∀ q, (∀ f i, (f, i) ∈ E → ad f i ≠ q) → J p l e R s m args below meth c cc nL own D (E ++ [(f0, i0)]) kd tc (gAd ad f0 i0 q) rh sa A H0 (cells + 1) (slots + N) Q μ pc1 lv (.ref q :: st)) : J p l e R s m args below meth c cc nL own D E kd tc ad rh sa A H0 cells slots Q μ pc lv (.int n :: st) := by
  subst hp
  intro H locs ls C hP hS hl
  have hwd : ∀ w ∈ BIG, w.before args s = true := C.2.2.2.2.1
  refine va_newa C.1 C.2.1 (atype := .byte) (hwd _ harr) (ty := .byte) rfl C.2.2.2.2.2.1.1 hP (C.2.2.2.2.2.2.1 μ) hS C.2.2.2.2.2.2.2 (a0 := (N, .inl (fun _ => 0))) (fun _ => rfl) hn hN hb hc hs hdg (fun q cA H1 hK1 hP1 hD1 hS1 => ?_)
  have hcA : cA = tc 4 := gTc4 C.2.2.2.2.2.1.1 (hK1.2 5 _ rfl).2
  subst hcA
  have hne : ∀ f i, (f, i) ∈ E → ¬ (f = f0 ∧ i = i0) := fun f i h e => hf (by rw [← e.1, ← e.2]; exact h)
  have hfr : ∀ f i, (f, i) ∈ E → ad f i ≠ q := fun f i h => g_fresh hD1 h
  refine k q hfr H1 locs ls ⟨C.1, C.2.1, C.2.2.1, C.2.2.2.1, hwd, C.2.2.2.2.2.1, fun μ' => gD_new gAd_at (fun f i h => gAd_ne (hne f i h)) hD1, C.2.2.2.2.2.2.2⟩ (gP_new (rh := rh) (μ := μ) gAd_at ?_ (fun f i h => ⟨gAd_ne (hne f i h), g_e_ad (fun k0 => hrh f i _ k0 h)⟩) hP1) hS1 hl
  rw [g_arr hk, hz]
theorem J_copyB {f i f1 i1 n0 n1 idx : Nat} {sp dp n : Int32} {μ' : gM} (hE : (f, i) ∈ E) (hk : kd f = .inr (.inl (4, n0))) (hE1 : (f1, i1) ∈ E) (hk1 : kd f1 = .inr (.inl (4, n1))) (hl1 : Cond.methodLink own idx arraycopyName ∈ BIG) (hl2 : Cond.native arraycopyName ∈ BIG) (hl3 : Cond.static arraycopyName ∈ BIG) (hl4 : Cond.initialized "java/lang/System" ∈ BIG) (h1 : ¬ sp < 0) (h2 : ¬ dp < 0) (h3 : ¬ n < 0) (h4 : sp.toNatClampNeg + n.toNatClampNeg ≤ n0) (h5 : dp.toNatClampNeg + n.toNatClampNeg ≤ n1) (hfit : ∀ j, j < n.toNatClampNeg → fits .byte (.int (μ f i (sp.toNatClampNeg + j))) = true) (hm : μ' f1 i1 = va_cpy (μ f i) (μ f1 i1) sp.toNatClampNeg dp.toNatClampNeg n.toNatClampNeg) (ho : ∀ f' i', ¬ (f' = f1 ∧ i' = i1) → μ' f' i' = μ f' i') (hR : 1 ≤ R.frames ∧ (st.map fun v => v.category).sum + (nativeFrameWords "java/lang/System" "arraycopy" 5 + 11) ≤ R.locals) (hdg : decode cc pc = .ok (.invokestatic idx, 3)) {pc1 : Nat} (hp : pc + 3 = pc1) (k : J p l e R s m args below meth c cc nL own D E kd tc ad rh sa A H0 cells slots Q μ' pc1 lv st) : J p l e R s m args below meth c cc nL own D E kd tc ad rh sa A H0 cells slots Q μ pc lv (.int n :: .int dp :: .ref (ad f1 i1) :: .int sp :: .ref (ad f i) :: st) := fun H locs ls C hP hS hl => by
  subst hp
  obtain ⟨q0, -, hq⟩ := J_ald_aux (tc := tc) (ad := ad) (rh := rh) hE hk μ
  obtain ⟨q1, h1', hq1⟩ := J_ald_aux (tc := tc) (ad := ad) (rh := rh) hE1 hk1 μ
  have e2 := g_set (kd := kd) (tc := tc) (rh := rh) (μ' := μ') (C.2.2.2.2.2.2.1 μ) h1' ho
  rw [g_arr hk1, hm] at e2
  refine va_copyi C.1 C.2.1 (C.2.2.1.trans hl.1.symm) C.2.2.2.1 (C.2.2.2.2.1 _ hl1) (C.2.2.2.2.1 _ hl2) (C.2.2.2.2.1 _ hl3) (C.2.2.2.2.1 _ hl4) C.2.2.2.2.2.1.1 hP (C.2.2.2.2.2.2.1 μ) hS q0 q1 4 4 hq hq1 rfl rfl rfl h1 h2 h3 h4 h5 hfit hR.1 hR.2 hdg (fun H1 locs1 g1 g2 g3 => k H1 locs1 ls C ?_ g3 hl)
  rw [← e2]
  exact g1
theorem gP_conv2 {cl : List vw_C} {H : Heap} {E1 : List (Nat × Nat)} {kd1 : Nat → gKd} {ad1 : Nat → Nat → Nat} {rh1 : gRh} {μ1 : gM} (h : ∀ f i, (f, i) ∈ E1 → ∃ f' i', (f', i') ∈ E ∧ ad1 f i = ad f' i' ∧ g_e kd1 tc ad1 rh1 (μ1 f i) f i = g_e kd tc ad rh (μ f' i') f' i') (hP : va_P D cl (g_w E kd tc ad rh μ) H) : va_P D cl (g_w E1 kd1 tc ad1 rh1 μ1) H := by
  refine gP_sub (fun x hx => ?_) hP
  obtain ⟨f, i, h1, rfl⟩ := g_w_mem.mp hx
  obtain ⟨f', i', h2, h3, h4⟩ := h f i h1
  exact g_w_mem.mpr ⟨f', i', h2, by rw [h3, h4]⟩
theorem J_conv2 {E1 : List (Nat × Nat)} {kd1 : Nat → gKd} {ad1 : Nat → Nat → Nat} {rh1 : gRh} {μ1 : gM} (hI : gI E1 ad1) (h : ∀ f i, (f, i) ∈ E1 → ∃ f' i', (f', i') ∈ E ∧ ad1 f i = ad f' i' ∧ g_e kd1 tc ad1 rh1 (μ1 f i) f i = g_e kd tc ad rh (μ f' i') f' i') (k : J p l e R s m args below meth c cc nL own D E1 kd1 tc ad1 rh1 sa A H0 cells slots Q μ1 pc lv st) : J p l e R s m args below meth c cc nL own D E kd tc ad rh sa A H0 cells slots Q μ pc lv st := by
  intro H locs ls C hP hS hl
  refine k H locs ls ⟨C.1, C.2.1, C.2.2.1, C.2.2.2.1, C.2.2.2.2.1, C.2.2.2.2.2.1, fun μ' => ⟨(g_D (sz := 0) hI μ').1, fun k0 q0 h0 => ?_⟩, C.2.2.2.2.2.2.2⟩ (gP_conv2 h hP) hS hl
  obtain ⟨f, i, h1, rfl⟩ := g_w_mem.mp (List.mem_of_getElem? h0)
  obtain ⟨f', i', h2, h3, -⟩ := h f i h1
  obtain ⟨k1, -, h4⟩ := g_at (kd := kd) (tc := tc) (ad := ad) (rh := rh) (μ := μ) h2
  show A (ad1 f i)
  rw [h3]
  exact (C.2.2.2.2.2.2.1 μ).2 k1 _ h4
/-- what holds of a method's end: its answer, its world then -/
abbrev gPo : Type := Option Value → List (Nat × Nat) → (Nat → gKd) → (Nat → Nat → Nat) → gRh → gM → Prop
def gQG (D : va_G) (tc : Nat → ClassId) (E : List (Nat × Nat)) (ad : Nat → Nat → Nat) (sz : Nat) (P : gPo) : Array Value → State → Outcome → State → Prop := fun _ st oc t =>
  ∃ (o : Option Value) (E1 : List (Nat × Nat)) (kd1 : Nat → gKd) (ad1 : Nat → Nat → Nat) (rh1 : gRh) (μ1 : gM), oc = .returned o ∧ P o E1 kd1 ad1 rh1 μ1 ∧ gI E1 ad1 ∧ (∀ f i, (f, i) ∈ E1 → gA E ad sz (ad1 f i)) ∧ va_P D vwCl (g_w E1 kd1 tc ad1 rh1 μ1) t.heap ∧ va_F (gA E ad sz) st t
def gMetG (l : Launch) (y : MethodName) (cc : ByteArray) (maxL : Nat) (ret : Option FieldType) (rm : Room) (D : va_G) (E : List (Nat × Nat)) (kd : Nat → gKd) (tc : Nat → ClassId) (ad : Nat → Nat → Nat) (rh : gRh) (sa : Nat → Nat) (av : List Value) (μ : gM) (P : gPo) : Prop :=
  ∀ sz : Nat, Met l y (.code y cc maxL ret :: BIG) rm (gPc D E kd tc ad rh sa sz av μ) (gQG D tc E ad sz P) rm.cells rm.slots (gA E ad sz)
/-- the world is as it was, but for the memory -/
def gSame (E : List (Nat × Nat)) (kd : Nat → gKd) (ad : Nat → Nat → Nat) (rh : gRh) (o : Option Value) (μ' : gM) : gPo := fun o1 E1 kd1 ad1 rh1 μ1 => o1 = o ∧ E1 = E ∧ kd1 = kd ∧ ad1 = ad ∧ rh1 = rh ∧ μ1 = μ'
theorem gMetG_of {y : MethodName} {maxL : Nat} {ret : Option FieldType} {av : List Value} {P : gPo} (hI : gI E ad) (hy : plainName y.cls = true ∧ (lg_sl av).length ≤ maxL)
    (body : ∀ (p : Program) (e : Env) (s : State) (m : MethodId) (args : Array Value) (below : List Frame) (meth : Method) (c : Code) (sz : Nat), meth.sig.returnType = ret → meth.locks = false → J p l e R s m args below meth c cc maxL y.cls D E kd tc ad rh sa (gA E ad sz) s.heap 0 0 (MQ below (gQG D tc E ad sz P) args s R.cells R.slots (gA E ad sz)) μ 0 (lv_args 0 av) []) : gMetG l y cc maxL ret R D E kd tc ad rh sa av μ P := by
  intro sz
  refine Met.ofW (cc := cc) (maxL := maxL) (ret := ret) hy.1 rfl ?_
  intro p e s m args below meth c s₁ B hml hv
  obtain ⟨rfl, hsz, hP, hK⟩ := hv
  have hts := atoms_spec (ws := .code y cc maxL ret :: BIG) B.pre
  have hown : s.vm.findClass y.cls = some m.cls := findClass_of_methodNamed B.named
  have hl := lv_entry av (n := maxL) hy.2
  rw [lg_entry_eq]
  generalize (lg_sl av ++ List.replicate (maxL - (lg_sl av).length) Slot.unset).toArray = ls at hl ⊢
  exact body p e s m _ below meth c sz B.returns B.notSynchronized s.heap [] ls ⟨B.exec, B.bytes, hml, hown, fun w hw => hts w (List.mem_cons_of_mem _ hw), by rw [← hsz] at hK ⊢; exact hK, fun μ => g_D hI μ, fun q h => Or.inr (by rw [← hsz]; exact h)⟩ hP va_S.rf hl
theorem gQG_end {E1 : List (Nat × Nat)} {kd1 : Nat → gKd} {ad1 : Nat → Nat → Nat} {rh1 : gRh} {μ1 : gM} {sz : Nat} {P : gPo} {o : Option Value} {H : Heap} {locs : List Loc} {t : State} (hP : P o E1 kd1 ad1 rh1 μ1) (hI : gI E1 ad1) (hD : va_D (gA E ad sz) (g_w E1 kd1 tc ad1 rh1 μ1)) (hH : va_P D vwCl (g_w E1 kd1 tc ad1 rh1 μ1) H) (hS : va_S (gA E ad sz) s.heap H locs) (ht : t.heap = H) : gQG D tc E ad sz P args s (.returned o) t :=
  ⟨o, E1, kd1, ad1, rh1, μ1, rfl, hP, hI, fun f i h => by
    obtain ⟨k, -, hk⟩ := g_at (kd := kd1) (tc := tc) (ad := ad1) (rh := rh1) (μ := μ1) h
    exact hD.2 k _ hk, by rw [ht]; exact hH, hS.F ht⟩
theorem J_iretG {E1 : List (Nat × Nat)} {kd1 : Nat → gKd} {ad1 : Nat → Nat → Nat} {rh1 : gRh} {μ1 : gM} {sz mc ms : Nat} {P : gPo} {v : Int32} (hr : meth.sig.returnType = some .int) (hlk : meth.locks = false) (hP : P (some (.int v)) E1 kd1 ad1 rh1 μ1) (hI : gI E1 ad1) (hc : cells ≤ mc) (hs : slots ≤ ms) (hdg : decode cc pc = .ok (.ireturn, 1)) : J p l e R s m args below meth c cc nL own D E1 kd1 tc ad1 rh1 sa (gA E ad sz) s.heap cells slots (MQ below (gQG D tc E ad sz P) args s mc ms (gA E ad sz)) μ1 pc lv [.int v] := fun H locs ls C hH hS hl =>
  W.widen hc hs (W.iret C.1 C.2.1 hr (fun t ht hW => gQG_end hP hI (C.2.2.2.2.2.2.1 μ1) hH hS ht) hS.2.2 hdg hlk)
theorem J_zretG {E1 : List (Nat × Nat)} {kd1 : Nat → gKd} {ad1 : Nat → Nat → Nat} {rh1 : gRh} {μ1 : gM} {sz mc ms : Nat} {P : gPo} {v : Int32} (hb : v = 0 ∨ v = 1) (hr : meth.sig.returnType = some .boolean) (hlk : meth.locks = false) (hP : P (some (.int v)) E1 kd1 ad1 rh1 μ1) (hI : gI E1 ad1) (hc : cells ≤ mc) (hs : slots ≤ ms) (hdg : decode cc pc = .ok (.ireturn, 1)) : J p l e R s m args below meth c cc nL own D E1 kd1 tc ad1 rh1 sa (gA E ad sz) s.heap cells slots (MQ below (gQG D tc E ad sz P) args s mc ms (gA E ad sz)) μ1 pc lv [.int v] := fun H locs ls C hH hS hl =>
  W.widen hc hs (W.zret C.1 C.2.1 hr (by rcases hb with rfl | rfl <;> rfl) (fun t ht hW => gQG_end hP hI (C.2.2.2.2.2.2.1 μ1) hH hS ht) hS.2.2 hdg hlk)
theorem J_cretG {E1 : List (Nat × Nat)} {kd1 : Nat → gKd} {ad1 : Nat → Nat → Nat} {rh1 : gRh} {μ1 : gM} {sz mc ms : Nat} {P : gPo} {v : Int32} (hb : vp_nar .char v = v) (hr : meth.sig.returnType = some .char) (hlk : meth.locks = false) (hP : P (some (.int v)) E1 kd1 ad1 rh1 μ1) (hI : gI E1 ad1) (hc : cells ≤ mc) (hs : slots ≤ ms) (hdg : decode cc pc = .ok (.ireturn, 1)) : J p l e R s m args below meth c cc nL own D E1 kd1 tc ad1 rh1 sa (gA E ad sz) s.heap cells slots (MQ below (gQG D tc E ad sz P) args s mc ms (gA E ad sz)) μ1 pc lv [.int v] := fun H locs ls C hH hS hl =>
  W.widen hc hs (W.zret C.1 C.2.1 hr (congrArg Value.int hb) (fun t ht hW => gQG_end hP hI (C.2.2.2.2.2.2.1 μ1) hH hS ht) hS.2.2 hdg hlk)
theorem J_vretG {E1 : List (Nat × Nat)} {kd1 : Nat → gKd} {ad1 : Nat → Nat → Nat} {rh1 : gRh} {μ1 : gM} {sz mc ms : Nat} {P : gPo} (hr : meth.sig.returnType = none) (hlk : meth.locks = false) (hP : P none E1 kd1 ad1 rh1 μ1) (hI : gI E1 ad1) (hc : cells ≤ mc) (hs : slots ≤ ms) (hdg : decode cc pc = .ok (.return_, 1)) : J p l e R s m args below meth c cc nL own D E1 kd1 tc ad1 rh1 sa (gA E ad sz) s.heap cells slots (MQ below (gQG D tc E ad sz P) args s mc ms (gA E ad sz)) μ1 pc lv [] := fun H locs ls C hH hS hl =>
  W.widen hc hs (W.vret C.1 C.2.1 hr (fun t ht hW => gQG_end hP hI (C.2.2.2.2.2.2.1 μ1) hH hS ht) hS.2.2 hdg hlk)
theorem J_aretG {E1 : List (Nat × Nat)} {kd1 : Nat → gKd} {ad1 : Nat → Nat → Nat} {rh1 : gRh} {μ1 : gM} {sz mc ms : Nat} {P : gPo} {a : Nat} {Cn : String} (hr : meth.sig.returnType = some (.object Cn)) (hlk : meth.locks = false) (hP : P (some (.ref a)) E1 kd1 ad1 rh1 μ1) (hI : gI E1 ad1) (hc : cells ≤ mc) (hs : slots ≤ ms) (hdg : decode cc pc = .ok (.areturn, 1)) : J p l e R s m args below meth c cc nL own D E1 kd1 tc ad1 rh1 sa (gA E ad sz) s.heap cells slots (MQ below (gQG D tc E ad sz P) args s mc ms (gA E ad sz)) μ1 pc lv [.ref a] := fun H locs ls C hH hS hl =>
  W.widen hc hs (W.aret C.1 C.2.1 hr (Or.inl ⟨_, rfl⟩) (Or.inr ⟨_, rfl⟩) (fun t ht hW => gQG_end hP hI (C.2.2.2.2.2.2.1 μ1) hH hS ht) hS.2.2 hdg hlk)
theorem J_aretB {E1 : List (Nat × Nat)} {kd1 : Nat → gKd} {ad1 : Nat → Nat → Nat} {rh1 : gRh} {μ1 : gM} {sz mc ms : Nat} {P : gPo} {a : Nat} (hr : meth.sig.returnType = some (.array .byte)) (hlk : meth.locks = false) (hP : P (some (.ref a)) E1 kd1 ad1 rh1 μ1) (hI : gI E1 ad1) (hc : cells ≤ mc) (hs : slots ≤ ms) (hdg : decode cc pc = .ok (.areturn, 1)) : J p l e R s m args below meth c cc nL own D E1 kd1 tc ad1 rh1 sa (gA E ad sz) s.heap cells slots (MQ below (gQG D tc E ad sz P) args s mc ms (gA E ad sz)) μ1 pc lv [.ref a] := fun H locs ls C hH hS hl =>
  W.widen hc hs (W.aret C.1 C.2.1 hr (Or.inr ⟨_, rfl⟩) (Or.inr ⟨_, rfl⟩) (fun t ht hW => gQG_end hP hI (C.2.2.2.2.2.2.1 μ1) hH hS ht) hS.2.2 hdg hlk)
/-- behind a call: the callee's cells, and those of ours that it couldn't reach -/
theorem J_runG {Ec : List (Nat × Nat)} {kdc : Nat → gKd} {adc : Nat → Nat → Nat} {rhc : gRh} {μc : gM} {mc ms : Nat} {P : gPo} {rest av st0 : List Value}
    (hsub : ∀ f i, (f, i) ∈ Ec → ∃ f' i', (f', i') ∈ E ∧ adc f i = ad f' i' ∧ g_e kdc tc adc rhc (μc f i) f i = g_e kd tc ad rh (μ f' i') f' i')
    (hrun : ∀ (H : Heap) (locs : List Loc) (ls : Array Slot), Cx p s m args c cc nL own D E kd tc ad rh sa A H0 → va_P D vwCl (g_w E kd tc ad rh μ) H → va_S A H0 H locs → lv_has ls nL lv → FrameBlind (gPc D Ec kdc tc adc rhc sa H.size av μc) → (∀ U : State, U.heap = H → s.WarmedH U.vm → gPc D Ec kdc tc adc rhc sa H.size av μc av.toArray U) → va_Run p l e R s m args below meth c H locs cells slots mc ms (F0 m pc ls st0) rest (gQG D tc Ec adc H.size P av.toArray) (gA Ec adc H.size))
    (k : ∀ (o : Option Value) (E1 : List (Nat × Nat)) (kd1 : Nat → gKd) (ad1 : Nat → Nat → Nat) (rh1 : gRh) (μ1 : gM), P o E1 kd1 ad1 rh1 μ1 → gI E1 ad1 → (∀ f i, (f, i) ∈ E1 → (∃ f' i', (f', i') ∈ Ec ∧ ad1 f i = adc f' i') ∨ ∀ f' i', (f', i') ∈ E → ad f' i' ≠ ad1 f i) →
      ∃ (E2 : List (Nat × Nat)) (kd2 : Nat → gKd) (ad2 : Nat → Nat → Nat) (rh2 : gRh) (μ2 : gM), gI E2 ad2 ∧ (∀ f i, (f, i) ∈ E2 → (∃ f' i', (f', i') ∈ E1 ∧ ad2 f i = ad1 f' i' ∧ g_e kd2 tc ad2 rh2 (μ2 f i) f i = g_e kd1 tc ad1 rh1 (μ1 f' i') f' i') ∨ ∃ f' i', (f', i') ∈ E ∧ (∀ a b, (a, b) ∈ Ec → adc a b ≠ ad f' i') ∧ ad2 f i = ad f' i' ∧ g_e kd2 tc ad2 rh2 (μ2 f i) f i = g_e kd tc ad rh (μ f' i') f' i') ∧
        J p l e R s m args below meth c cc nL own D E2 kd2 tc ad2 rh2 sa A H0 (cells + mc) (slots + ms) Q μ2 (pc + 3) lv (o.toList ++ rest)) : J p l e R s m args below meth c cc nL own D E kd tc ad rh sa A H0 cells slots Q μ pc lv st0 := by
  intro H locs ls C hP hS hl
  have hmem : ∀ f i, (f, i) ∈ E → A (ad f i) := fun f i h => by
    obtain ⟨k1, -, h4⟩ := g_at (kd := kd) (tc := tc) (ad := ad) (rh := rh) (μ := μ) h
    exact (C.2.2.2.2.2.2.1 μ).2 k1 _ h4
  have hA1 : ∀ q, gA Ec adc H.size q → A q := fun q h => by
    rcases h with ⟨f, i, h1, rfl⟩ | h
    · obtain ⟨f', i', h2, h3, -⟩ := hsub f i h1
      rw [h3]
      exact hmem f' i' h2
    · exact C.2.2.2.2.2.2.2 q (Nat.le_trans hS.1 h)
  have hr := hrun H locs ls C hP hS hl gPc_blind (fun U hU hW => ⟨rfl, by rw [hU], by rw [hU]; exact gP_conv2 hsub hP, gEV.call C.2.2.2.2.2.1 hS hA1 hU hW⟩)
  intro T hT X
  obtain ⟨v, st₀, t, T', L, h0, X', hL, e1, e2, ⟨o, E1, kd1, ad1, rh1, μ1, hv, hp, hI1, hin1, hP1, hz, hk⟩, stp⟩ := hr T hT X
  cases hv
  rw [h0] at hz hk
  obtain ⟨E2, kd2, ad2, rh2, μ2, hI2, h2, kk⟩ := k v E1 kd1 ad1 rh1 μ1 hp hI1 (fun f i h => by
    rcases hin1 f i h with ⟨f', i', h5, h6⟩ | h5
    · exact Or.inl ⟨f', i', h5, h6⟩
    · refine Or.inr (fun f' i' h6 => ?_)
      have := g_lt hP h6
      omega)
  have hA2 : ∀ f i, (f, i) ∈ E1 → A (ad1 f i) := fun f i h => hA1 _ (hin1 f i h)
  obtain ⟨t2, a1, b1⟩ := kk T'.heap (locs ++ L) ls ⟨C.1, C.2.1, C.2.2.1, C.2.2.2.1, C.2.2.2.2.1, C.2.2.2.2.2.1, fun μ' => ⟨(g_D (sz := 0) hI2 μ').1, fun k0 q0 h3 => by
      obtain ⟨f, i, h4, rfl⟩ := g_w_mem.mp (List.mem_of_getElem? h3)
      show A (ad2 f i)
      rcases h2 f i h4 with ⟨f', i', h5, h6, -⟩ | ⟨f', i', h5, -, h6, -⟩
      · rw [h6]; exact hA2 f' i' h5
      · rw [h6]; exact hmem f' i' h5⟩, C.2.2.2.2.2.2.2⟩ (fun k0 q0 h3 => by
      obtain ⟨f, i, h4, rfl⟩ := g_w_mem.mp (List.mem_of_getElem? h3)
      rw [e1]
      rcases h2 f i h4 with ⟨f', i', h5, h6, h7⟩ | ⟨f', i', h5, h8, h6, h7⟩
      · rw [h6, h7]
        obtain ⟨k1, -, h9⟩ := g_at (kd := kd1) (tc := tc) (ad := ad1) (rh := rh1) (μ := μ1) h5
        exact hP1 k1 _ h9
      · rw [h6, h7]
        obtain ⟨k1, -, h9⟩ := g_at (kd := kd) (tc := tc) (ad := ad) (rh := rh) (μ := μ) h5
        have hlt := g_lt hP h5
        exact (hP k1 _ h9).kept (hk _ hlt (fun z => by
          rcases z with ⟨a, b, z1, z2⟩ | z1
          · exact h8 a b z1 z2.symm
          · omega)))
    ⟨Nat.le_trans hS.1 (by rw [e1]; exact hz), fun q h3 h4 => by rw [e1, hk q (Nat.lt_of_lt_of_le h3 hS.1) (fun z => h4 (hA1 q z))]; exact hS.2.1 q h3 h4, fun q hq => by
      rcases List.mem_append.mp hq with h | h
      · exact hS.2.2 q h
      · exact hA1 _ (hL q h)⟩ hl T' rfl X'
  exact ⟨t2, stp t2 a1, b1⟩
end SB1
