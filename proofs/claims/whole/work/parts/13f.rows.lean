/-! rows for constructors (final fields), a copy out of a constant text, ldc_w of a text; plain contracts as gMetG -/
section SB7
variable {p : Program} {l : Launch} {e : Env} {R : Room} {s : State} {m : MethodId} {args : Array Value} {below : List Frame} {meth : Method} {c : Code} {cc : ByteArray} {nL : Nat} {own : String} {D : va_G} {E : List (Nat × Nat)} {kd : Nat → gKd} {tc : Nat → ClassId} {ad : Nat → Nat → Nat} {rh : gRh} {sa : Nat → Nat} {A : Nat → Prop} {H0 : Heap} {cells slots : Nat} {Q : State → Prop} {μ : gM} {pc : Nat} {lv : List (Nat × Value)} {st : List Value}

theorem J_null (hdg : decode cc pc = .ok (.aconst_null, 1)) {pc1 : Nat} (hp : pc + 1 = pc1) (k : J p l e R s m args below meth c cc nL own D E kd tc ad rh sa A H0 cells slots Q μ pc1 lv (.null :: st)) : J p l e R s m args below meth c cc nL own D E kd tc ad rh sa A H0 cells slots Q μ pc lv st := by
  subst hp
  exact fun H locs ls C hP hS hl => lv_null C.1 C.2.1 hdg (k H locs ls C hP hS hl)
theorem J_aloadX {k0 : Fin 4} {i q : Nat} {v : Value} (hdg : decode cc pc = .ok (.aload_n k0, 1)) (hi : (k0 : Nat) = i) (hq : lv[q]? = some (i, v)) (hv : v = .null ∨ ∃ t, v = .ref t) {pc1 : Nat} (hp : pc + 1 = pc1) (k : J p l e R s m args below meth c cc nL own D E kd tc ad rh sa A H0 cells slots Q μ pc1 lv (v :: st)) : J p l e R s m args below meth c cc nL own D E kd tc ad rh sa A H0 cells slots Q μ pc lv st := by
  subst hp
  intro H locs ls C hP hS hl
  rcases hv with rfl | ⟨t, rfl⟩
  · exact lv_aload_nN C.1 C.2.1 hdg hi (lv_at hl q hq) (k H locs ls C hP hS hl)
  · exact lv_aload_n C.1 C.2.1 hdg hi (lv_at hl q hq) (k H locs ls C hP hS hl)
theorem J_ldcSW {i is : Nat} {tx : String} (hi : i < 33 ∧ jsO i = own ∧ jsI i = is ∧ jsT i = tx) (hdg : decode cc pc = .ok (.ldc_w is, 3)) {pc1 : Nat} (hp : pc + 3 = pc1) (k : J p l e R s m args below meth c cc nL own D E kd tc ad rh sa A s.heap cells slots Q μ pc1 lv (.ref (sa (3 * i)) :: st)) : J p l e R s m args below meth c cc nL own D E kd tc ad rh sa A s.heap cells slots Q μ pc lv st := by
  subst hp
  intro H locs ls C hP hS hl T hT X
  obtain ⟨t, a1, b1⟩ := k H locs ls C hP hS hl T hT X
  have hZ : vk_R own is tx (sa (3 * i)) s := by
    have h9 := C.2.2.2.2.2.1.2.2.1 i hi.1
    rw [hi.2.1, hi.2.2.1, hi.2.2.2] at h9
    exact h9
  have hdg2 : decode c.code pc = .ok (.ldc_w is, 3) := by rw [C.2.1]; exact hdg
  exact ⟨t, X.ldcStringW C.1 (own := own) (text := tx) (index := is) (a := sa (3 * i)) C.2.2.2.1 hZ.1 hZ.2 (g := F0 m pc ls st) rfl hdg2 t a1, b1⟩
theorem va_copyt {D : va_G} {cl : List vw_C} {tys : List (ClassId × FieldType)} {ws : va_W} {H : Heap} {locs : List Loc} {ls : Array Slot} {rest : List Value} {a : Nat} (hexec : p.tables.exec = Jvm.exec) (hb : c.code = cc) (hml : c.maxLocals = ls.size) {index : Nat} (hown : s.vm.findClass own = some m.cls) (hlink : (Cond.methodLink own index arraycopyName).before args s = true) (hnat : (Cond.native arraycopyName).before args s = true) (hstat : (Cond.static arraycopyName).before args s = true) (hini : (Cond.initialized "java/lang/System").before args s = true)
    (hK : va_K D cl tys s) (hP : va_P D cl ws H) (hD : va_D A ws) (hS : va_S A s.heap H locs) (q1 t1 : Nat) {a0 : Nat} {c1 : ClassId} {n1 : Nat} {fv : Nat → Value} {g : Nat → Int32} (hX : va_T .byte a0 0 fv A s s.heap) (ha1 : ws[q1]? = some (a, .inl (c1, n1, .inl g))) (ht1 : tys[t1]? = some (c1, .byte))
    {sp dp n : Int32} (h1 : ¬ sp < 0) (h2 : ¬ dp < 0) (h3 : ¬ n < 0) (h4 : sp.toNatClampNeg + n.toNatClampNeg ≤ 0) (h5 : dp.toNatClampNeg + n.toNatClampNeg ≤ n1)
    (hframes : 1 ≤ R.frames) (hlocals : (rest.map fun v => v.category).sum + (nativeFrameWords "java/lang/System" "arraycopy" 5 + 11) ≤ R.locals) (hdg : decode cc pc = .ok (.invokestatic index, 3))
    (kk : ∀ (H1 : Heap) (locs1 : List Loc), va_P D cl ws H1 → va_S A s.heap H1 locs1 → W p l e R s m args below meth c H1 locs1 cells slots Q (F0 m (pc + 3) ls rest)) : W p l e R s m args below meth c H locs cells slots Q (F0 m pc ls (.int n :: .int dp :: .ref a :: .int sp :: .ref a0 :: rest)) := by
  have nn : ∀ z : Int32, ¬ z < 0 → z.toInt = (z.toNatClampNeg : Int) := by
    intro z hz
    have hz0 : (0 : Int) ≤ z.toInt := by
      have := Int32.not_lt.mp hz
      simpa using Int32.le_iff_toInt_le.mp this
    show z.toInt = ((z.toInt.toNat : Nat) : Int)
    omega
  have hn0 : n.toNatClampNeg = 0 := by omega
  intro T hT X
  obtain ⟨scr, hs1, ⟨hs2, k0, hk0, cm0, hkk0⟩, hs3, -, -, -, hs7⟩ := hX
  have hc0 : H[a0]? = some scr := by rw [hS.2.1 a0 (Array.getElem?_eq_some_iff.mp hs1).1 hs7]; exact hs1
  have hc1 : H[a]? = some (vp_cell c1 (n1, .inl g)) := hP q1 _ ha1
  obtain ⟨-, k1, hk1, cm1, hkk1⟩ := (hK.2 t1 _ ht1).1 n1 (fun j => .int (g j))
  obtain ⟨vm', X', step⟩ := X.arraycopy hexec hown hlink hnat hstat hini (src := a0) (dst := a) (cs := scr) (cd := vp_cell c1 (n1, .inl g)) (srcPos := sp) (destPos := dp) (n := n) (by rw [hT]; exact hc0) (by rw [hT]; exact hc1)
    hs2 (fun _ h => by cases h) hs3 (fun h => by cases h) hk0 hk1 hkk0 hkk1 rfl h1 h2 h3
    (by rw [nn sp h1, nn n h3]; omega)
    (by rw [nn dp h2, nn n h3]; show ¬ _ > ((arrV c1 n1 (fun j => .int (g j))).slots.size : Int); rw [arrV_size]; omega)
    (fun vm₁ hal i hi => absurd hi (by omega))
    (g := F0 m pc ls (.int n :: .int dp :: .ref a :: .int sp :: .ref a0 :: rest)) rfl (by rw [hml]) (rest := rest) rfl (by rw [hb]; exact hdg) hframes (by show 2 * 0 + _ + _ ≤ _; omega)
  have e1 : copied scr (vp_cell c1 (n1, .inl g)) sp dp n = vp_cell c1 (n1, .inl g) := by
    have e2 := va_copiedX (fun z => Value.int z) scr c1 (n0 := 0) (n1 := n1) (sp := sp.toNatClampNeg) (dp := dp.toNatClampNeg) (n := n.toNatClampNeg) (fun _ => (0 : Int32)) g (fun j hj => absurd hj (Nat.not_lt_zero j)) h4
    have e3 : va_cpy (fun _ => (0 : Int32)) g sp.toNatClampNeg dp.toNatClampNeg n.toNatClampNeg = g := by
      funext j
      exact pk_cpy_out (by omega)
    rw [e3] at e2
    exact e2
  rw [e1] at X' step
  have hl : a < H.size := (Array.getElem?_eq_some_iff.mp hc1).1
  have hheap : ((T.setVm vm').setCell a (vp_cell c1 (n1, .inl g))).heap = H.setIfInBounds a (vp_cell c1 (n1, .inl g)) := by rw [← hT]; rfl
  have oq : ∀ q : Nat, (H.setIfInBounds a (vp_cell c1 (n1, .inl g)))[q]? = H[q]? := fun q => by
    by_cases hq : q = a
    · subst hq
      simp [Array.getElem?_setIfInBounds, hl, ← hc1]
    · simp [Array.getElem?_setIfInBounds, Ne.symm hq]
  obtain ⟨t, a1, b1⟩ := kk _ _ (fun k q hk => (hP k q hk).kept (oq q.1)) ⟨by simp; exact hS.1, fun q g1 g2 => by
      rw [oq q]
      exact hS.2.1 q g1 g2, fun q hq => by
      rcases List.mem_append.mp hq with h | h
      · exact hS.2.2 q h
      · obtain ⟨z, -, hz⟩ := List.mem_map.mp h
        rw [← hz]
        exact hD.2 q1 _ ha1⟩ _ hheap X'
  exact ⟨t, step t a1, b1⟩
theorem J_copyT {f1 i1 n1 idx w : Nat} {sp dp n : Int32} (hw : 24 ≤ w ∧ w < 33) (hwl : (jsB w).length = 0) (hE1 : (f1, i1) ∈ E) (hk1 : kd f1 = .inr (.inl (4, n1))) (hl1 : Cond.methodLink own idx arraycopyName ∈ BIG) (hl2 : Cond.native arraycopyName ∈ BIG) (hl3 : Cond.static arraycopyName ∈ BIG) (hl4 : Cond.initialized "java/lang/System" ∈ BIG) (h1 : ¬ sp < 0) (h2 : ¬ dp < 0) (h3 : ¬ n < 0) (h4 : sp.toNatClampNeg + n.toNatClampNeg ≤ 0) (h5 : dp.toNatClampNeg + n.toNatClampNeg ≤ n1) (hR : 1 ≤ R.frames ∧ (st.map fun v => v.category).sum + (nativeFrameWords "java/lang/System" "arraycopy" 5 + 11) ≤ R.locals) (hdg : decode cc pc = .ok (.invokestatic idx, 3)) {pc1 : Nat} (hp : pc + 3 = pc1) (k : J p l e R s m args below meth c cc nL own D E kd tc ad rh sa A s.heap cells slots Q μ pc1 lv st) : J p l e R s m args below meth c cc nL own D E kd tc ad rh sa A s.heap cells slots Q μ pc lv (.int n :: .int dp :: .ref (ad f1 i1) :: .int sp :: .ref (sa (3 * w + 1)) :: st) := fun H locs ls C hP hS hl => by
  subst hp
  obtain ⟨q1, h1', hq1⟩ := J_ald_aux (tc := tc) (ad := ad) (rh := rh) hE1 hk1 μ
  have hX := (C.2.2.2.2.2.1.2.2.2.1 w hw.1 hw.2).2.2.2
  rw [hwl] at hX
  exact va_copyt C.1 C.2.1 (C.2.2.1.trans hl.1.symm) C.2.2.2.1 (C.2.2.2.2.1 _ hl1) (C.2.2.2.2.1 _ hl2) (C.2.2.2.2.1 _ hl3) (C.2.2.2.2.1 _ hl4) C.2.2.2.2.2.1.1 hP (C.2.2.2.2.2.2.1 μ) hS q1 4 hX hq1 rfl h1 h2 h3 h4 h5 hR.1 hR.2 hdg (fun H1 locs1 g1 g3 => k H1 locs1 ls C g1 g3 hl)
theorem J_putIF {f i ci n idx : Nat} {refs : List Nat} {Cn ref : String} {T : u_T} (hE : (f, i) ∈ E) (hk : kd f = .inl (ci, n, refs)) (hc : vwCl[ci]? = some (Cn, T, n)) (hin : ∀ w ∈ u_ws Cn T n, w ∈ BIG) (ty0 : Nat → FieldType) (hty : ∀ k, k < n → parseFieldDescriptor (T k).2.2.1 = some (ty0 k)) (hnm : ∀ a, a < n → ∀ b, b < n → a ≠ b → (T a).2.1 ≠ (T b).2.1) (k0 : Nat) (hlt : k0 < n) (hr : refs.contains k0 = false) (hrl : ∀ (row : Nat → Int32) (j : Nat) (v : Int32), refs.contains j = true → rh (upd row k0 v) f i j = rh row f i j) (hw : Cond.fieldLink own idx ref (T k0).2.1 (T k0).2.2.1 ∈ BIG) (href : ref = (T k0).1) (hfin : (T k0).2.2.2 = true) (hin2 : meth.name = "<init>") (hdecl : (T k0).1 = own) {v : Int32} (hn : narrow (ty0 k0) (.int v) = .int v) (hfit : fits (ty0 k0) (.int v) = true) (hdg : decode cc pc = .ok (.putfield idx, 3)) {pc1 : Nat} (hp : pc + 3 = pc1) (k : J p l e R s m args below meth c cc nL own D E kd tc ad rh sa A H0 cells slots Q (w3 μ f i k0 v) pc1 lv st) : J p l e R s m args below meth c cc nL own D E kd tc ad rh sa A H0 cells slots Q μ pc lv (.int v :: .ref (ad f i) :: st) := fun H locs ls C hP hS hl => by
  subst hp
  obtain ⟨q0, hE0, hq⟩ := g_at (kd := kd) (tc := tc) (ad := ad) (rh := rh) (μ := μ) hE
  have hq' := hq
  rw [g_fld hk] at hq'
  refine va_putF C.1 C.2.1 C.2.2.2.2.1 hin ty0 hty hnm C.2.2.2.1 C.2.2.2.2.2.1.1 hP (C.2.2.2.2.2.2.1 μ) hS q0 hq' hc k0 hlt (C.2.2.2.2.1 _ hw) (ref := ref) (fun x hx => by rw [href]; exact hx) hfin hin2 hdecl (hty k0 hlt) hn hfit (by simpa using hlt) hdg (fun H1 locs1 h1 h2 h3 => ?_)
  refine k H1 locs1 ls C ?_ h3 hl
  have e : (Sum.inr (ci, ((List.range n).map (g_v ad rh refs (μ f i) f i)).set k0 (.int v)) : va_E) = g_e kd tc ad rh (w3 μ f i k0 v f i) f i := by
    rw [g_fld hk, g_rset, w3_row]
    show (Sum.inr _ : va_E) = _
    congr 2
    apply List.map_congr_left
    intro j hj
    by_cases hjk : j = k0
    · subst hjk
      rw [if_pos rfl]
      unfold g_v
      rw [if_neg (by rw [hr]; decide)]
      simp [upd]
    · rw [if_neg hjk]
      unfold g_v
      by_cases hrj : refs.contains j = true
      · rw [if_pos hrj, if_pos hrj, hrl _ _ _ hrj]
      · rw [if_neg hrj, if_neg hrj]
        simp [upd, hjk]
  rw [e] at h1
  have e2 := g_set (kd := kd) (tc := tc) (rh := rh) (μ' := w3 μ f i k0 v) (C.2.2.2.2.2.2.1 μ) hE0 (fun f' i' hne => w3_ne hne)
  rw [e2] at h1
  exact h1
theorem J_putRNF {f i ci n idx f' i' : Nat} {refs : List Nat} {Cn ref : String} {T : u_T} (hE : (f, i) ∈ E) (hk : kd f = .inl (ci, n, refs)) (hc : vwCl[ci]? = some (Cn, T, n)) (hin : ∀ w ∈ u_ws Cn T n, w ∈ BIG) (ty0 : Nat → FieldType) (hty : ∀ k, k < n → parseFieldDescriptor (T k).2.2.1 = some (ty0 k)) (hnm : ∀ a, a < n → ∀ b, b < n → a ≠ b → (T a).2.1 ≠ (T b).2.1) (k0 : Nat) (hlt : k0 < n) (hr : refs.contains k0 = true) (hw : Cond.fieldLink own idx ref (T k0).2.1 (T k0).2.2.1 ∈ BIG) (href : ref = (T k0).1) (hfin : (T k0).2.2.2 = true) (hin2 : meth.name = "<init>") (hdecl : (T k0).1 = own) (hn : narrow (ty0 k0) (.ref (ad f' i')) = .ref (ad f' i')) (hfit : fits (ty0 k0) (.ref (ad f' i')) = true) (hdg : decode cc pc = .ok (.putfield idx, 3)) {pc1 : Nat} (hp : pc + 3 = pc1) (k : J p l e R s m args below meth c cc nL own D E kd tc ad (gRs rh f i k0 (f', i')) sa A H0 cells slots Q μ pc1 lv st) : J p l e R s m args below meth c cc nL own D E kd tc ad rh sa A H0 cells slots Q μ pc lv (.ref (ad f' i') :: .ref (ad f i) :: st) := fun H locs ls C hP hS hl => by
  subst hp
  obtain ⟨q0, hE0, hq⟩ := g_at (kd := kd) (tc := tc) (ad := ad) (rh := rh) (μ := μ) hE
  have hq' := hq
  rw [g_fld hk] at hq'
  refine va_putF C.1 C.2.1 C.2.2.2.2.1 hin ty0 hty hnm C.2.2.2.1 C.2.2.2.2.2.1.1 hP (C.2.2.2.2.2.2.1 μ) hS q0 hq' hc k0 hlt (C.2.2.2.2.1 _ hw) (ref := ref) (fun x hx => by rw [href]; exact hx) hfin hin2 hdecl (hty k0 hlt) hn hfit (by simpa using hlt) hdg (fun H1 locs1 h1 h2 h3 => ?_)
  refine k H1 locs1 ls ⟨C.1, C.2.1, C.2.2.1, C.2.2.2.1, C.2.2.2.2.1, C.2.2.2.2.2.1, fun μ' => gD_fst (by simp [g_w]) (C.2.2.2.2.2.2.1 μ'), C.2.2.2.2.2.2.2⟩ (g_setR hE0 ?_ (fun f1 i1 h4 h5 => gRs_ne h5) h1) h3 hl
  rw [g_fld hk, g_rset]
  congr 2
  apply List.map_congr_left
  intro j hj
  by_cases hjk : j = k0
  · subst hjk
    rw [if_pos rfl]
    unfold g_v
    rw [if_pos hr, gRs_at]
    rfl
  · rw [if_neg hjk]
    unfold g_v
    rw [gRs_k hjk]
/-- a constructor's contract -/
theorem gMetGi_of {y : MethodName} {maxL : Nat} {ret : Option FieldType} {av : List Value} {P : gPo} (hI : gI E ad) (hy : plainName y.cls = true ∧ (lg_sl av).length ≤ maxL)
    (body : ∀ (p : Program) (e : Env) (s : State) (m : MethodId) (args : Array Value) (below : List Frame) (meth : Method) (c : Code) (sz : Nat), meth.sig.returnType = ret → meth.locks = false → meth.name = y.name → J p l e R s m args below meth c cc maxL y.cls D E kd tc ad rh sa (gA E ad sz) s.heap 0 0 (MQ below (gQG D tc E ad sz P) args s R.cells R.slots (gA E ad sz)) μ 0 (lv_args 0 av) []) : gMetG l y cc maxL ret R D E kd tc ad rh sa av μ P := by
  intro sz
  refine Met.ofW (cc := cc) (maxL := maxL) (ret := ret) hy.1 rfl ?_
  intro p e s m args below meth c s₁ B hml hv
  obtain ⟨rfl, hsz, hP, hK⟩ := hv
  have hts := atoms_spec (ws := .code y cc maxL ret :: BIG) B.pre
  have hown : s.vm.findClass y.cls = some m.cls := findClass_of_methodNamed B.named
  have hl := lv_entry av (n := maxL) hy.2
  rw [lg_entry_eq]
  generalize (lg_sl av ++ List.replicate (maxL - (lg_sl av).length) Slot.unset).toArray = ls at hl ⊢
  exact body p e s m _ below meth c sz B.returns B.notSynchronized (name_of_methodNamed B.named B.method).1 s.heap [] ls ⟨B.exec, B.bytes, hml, hown, fun w hw => hts w (List.mem_cons_of_mem _ hw), by rw [← hsz] at hK ⊢; exact hK, fun μ => g_D hI μ, fun q h => Or.inr (by rw [← hsz]; exact h)⟩ hP va_S.rf hl
/-- a plain contract is one of this kind -/
theorem gMet.G {y : MethodName} {maxL : Nat} {ret : Option FieldType} {rm : Room} {av : List Value} {o : Option Value} {μ1 : gM} (hI : gI E ad) (hrm : rm.cells = 0 ∧ rm.slots = 0) (h : gMet l y cc maxL ret rm D E kd tc ad rh sa av μ o μ1) : gMetG l y cc maxL ret rm D E kd tc ad rh sa av μ (gSame E kd ad rh o μ1) := by
  intro sz
  have h1 := h sz
  unfold Met at h1 ⊢
  rw [hrm.1, hrm.2]
  refine MetFree.mono h1 (fun _ _ h => h) (fun _ _ _ _ _ h => h) (fun a st oc t _ h2 => ⟨?_, h2.2⟩)
  obtain ⟨⟨h3, h4, h5⟩, -⟩ := h2
  exact ⟨o, E, kd, ad, rh, μ1, h3, ⟨rfl, rfl, rfl, rfl, rfl, rfl⟩, hI, fun f i h => Or.inl ⟨f, i, h, rfl⟩, h4, h5⟩
theorem gI_snoc {b f0 i0 : Nat} (hI : gI E ad) (hf : (f0, i0) ∉ E) (hb : ∀ f i, (f, i) ∈ E → ad f i ≠ b) : gI (E ++ [(f0, i0)]) (gAd ad f0 i0 b) := by
  have key : ∀ (i : Nat) (q : Nat × Nat), (E ++ [(f0, i0)])[i]? = some q → (i < E.length ∧ E[i]? = some q ∧ gAd ad f0 i0 b q.1 q.2 = ad q.1 q.2 ∧ ad q.1 q.2 ≠ b) ∨ (i = E.length ∧ gAd ad f0 i0 b q.1 q.2 = b) := by
    intro i q h
    by_cases hi : i < E.length
    · rw [List.getElem?_append_left hi] at h
      have hm : (q.1, q.2) ∈ E := List.mem_of_getElem? h
      exact Or.inl ⟨hi, h, gAd_ne (fun e => hf (by rw [← e.1, ← e.2]; exact hm)), hb _ _ hm⟩
    · rw [List.getElem?_append_right (by omega)] at h
      have hlt : i - E.length < 1 := by
        have := (List.getElem?_eq_some_iff.mp h).1
        simpa using this
      have hi2 : i = E.length := by omega
      subst hi2
      rw [Nat.sub_self] at h
      cases h
      exact Or.inr ⟨rfl, gAd_at⟩
  intro i j p1 q1 hi hj he
  rcases key i p1 hi with ⟨a1, a2, a3, a4⟩ | ⟨a1, a3⟩ <;> rcases key j q1 hj with ⟨b1, b2, b3, b4⟩ | ⟨b1, b3⟩
  · exact hI i j p1 q1 a2 b2 (by rw [← a3, ← b3]; exact he)
  · exact absurd (show ad p1.1 p1.2 = b by rw [← a3, he, b3]) a4
  · exact absurd (show ad q1.1 q1.2 = b by rw [← b3, ← he, a3]) b4
  · omega
end SB7
