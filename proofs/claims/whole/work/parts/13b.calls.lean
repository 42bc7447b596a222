/-! the roads of a call, for contracts whose world at the end is another one -/
section SB2
variable {p : Program} {l : Launch} {e : Env} {R : Room} {s : State} {m : MethodId} {args : Array Value} {below : List Frame} {meth : Method} {c : Code} {cc : ByteArray} {nL : Nat} {own : String} {D : va_G} {E : List (Nat × Nat)} {kd : Nat → gKd} {tc : Nat → ClassId} {ad : Nat → Nat → Nat} {rh : gRh} {sa : Nat → Nat} {A : Nat → Prop} {H0 : Heap} {cells slots : Nat} {Q : State → Prop} {μ : gM} {pc : Nat} {lv : List (Nat × Value)} {st : List Value}

def gRunH (p : Program) (l : Launch) (e : Env) (R : Room) (s : State) (m : MethodId) (args : Array Value) (below : List Frame) (meth : Method) (c : Code) (cc : ByteArray) (nL : Nat) (own : String) (D : va_G) (E : List (Nat × Nat)) (kd : Nat → gKd) (tc : Nat → ClassId) (ad : Nat → Nat → Nat) (rh : gRh) (sa : Nat → Nat) (A : Nat → Prop) (H0 : Heap) (cells slots : Nat) (μ : gM) (pc : Nat) (lv : List (Nat × Value)) (Ec : List (Nat × Nat)) (kdc : Nat → gKd) (adc : Nat → Nat → Nat) (rhc : gRh) (μc : gM) (mc ms : Nat) (P : gPo) (rest av st0 : List Value) : Prop :=
  ∀ (H : Heap) (locs : List Loc) (ls : Array Slot), Cx p s m args c cc nL own D E kd tc ad rh sa A H0 → va_P D vwCl (g_w E kd tc ad rh μ) H → va_S A H0 H locs → lv_has ls nL lv → FrameBlind (gPc D Ec kdc tc adc rhc sa H.size av μc) → (∀ U : State, U.heap = H → s.WarmedH U.vm → gPc D Ec kdc tc adc rhc sa H.size av μc av.toArray U) → va_Run p l e R s m args below meth c H locs cells slots mc ms (F0 m pc ls st0) rest (gQG D tc Ec adc H.size P av.toArray) (gA Ec adc H.size)
theorem J_runE {mc ms : Nat} {P : gPo} {av st0 : List Value} (hrun : gRunH p l e R s m args below meth c cc nL own D E kd tc ad rh sa A H0 cells slots μ pc lv E kd ad rh μ mc ms P st av st0)
    (k : ∀ (o : Option Value) (E1 : List (Nat × Nat)) (kd1 : Nat → gKd) (ad1 : Nat → Nat → Nat) (rh1 : gRh) (μ1 : gM), P o E1 kd1 ad1 rh1 μ1 → gI E1 ad1 → (∀ f i, (f, i) ∈ E1 → (∃ f' i', (f', i') ∈ E ∧ ad1 f i = ad f' i') ∨ ∀ f' i', (f', i') ∈ E → ad f' i' ≠ ad1 f i) → J p l e R s m args below meth c cc nL own D E1 kd1 tc ad1 rh1 sa A H0 (cells + mc) (slots + ms) Q μ1 (pc + 3) lv (o.toList ++ st)) : J p l e R s m args below meth c cc nL own D E kd tc ad rh sa A H0 cells slots Q μ pc lv st0 :=
  J_runG (fun f i h => ⟨f, i, h, rfl, rfl⟩) hrun (fun o E1 kd1 ad1 rh1 μ1 hp hI hf => ⟨E1, kd1, ad1, rh1, μ1, hI, fun f i h => Or.inl ⟨f, i, h, rfl, rfl⟩, k o E1 kd1 ad1 rh1 μ1 hp hI hf⟩)
/-- the same world behind the call, but for the memory -/
theorem J_runM {mc ms : Nat} {av st0 st1 : List Value} {o : Option Value} {μ1 : gM} (hrun : gRunH p l e R s m args below meth c cc nL own D E kd tc ad rh sa A H0 cells slots μ pc lv E kd ad rh μ mc ms (gSame E kd ad rh o μ1) st av st0) {pc1 : Nat} (hp : pc + 3 = pc1) (hs : o.toList ++ st = st1) {ce sl : Nat} (h1 : cells + mc = ce) (h2 : slots + ms = sl) (k : J p l e R s m args below meth c cc nL own D E kd tc ad rh sa A H0 ce sl Q μ1 pc1 lv st1) : J p l e R s m args below meth c cc nL own D E kd tc ad rh sa A H0 cells slots Q μ pc lv st0 := by
  subst hp; subst hs; subst h1; subst h2
  refine J_runE hrun (fun o2 E1 kd1 ad1 rh1 μ2 hp hI hf => ?_)
  obtain ⟨rfl, rfl, rfl, rfl, rfl, rfl⟩ := hp
  exact k
theorem J_hS {y : MethodName} {Ec : List (Nat × Nat)} {kdc : Nat → gKd} {adc : Nat → Nat → Nat} {rhc : gRh} {μc : gM} {P : gPo} {rm : Room} {maxL n idx : Nat} {ret : Option FieldType} {bytes : ByteArray} {As : List Value} (hM : gMetG l y bytes maxL ret rm D Ec kdc tc adc rhc sa As μc P) (hw : wCs y bytes maxL ret n) (hlk : Cond.methodLink own idx y ∈ BIG) (hn : As.length = n) (hrm : rm.frames + 1 ≤ R.frames ∧ 8 + (maxL + 11) + rm.locals ≤ R.locals) (hf : cells + rm.cells ≤ R.cells ∧ slots + rm.slots ≤ R.slots) (hst : (st.map fun v => v.category).sum ≤ 8) (hdg : decode cc pc = .ok (.invokestatic idx, 3)) : gRunH p l e R s m args below meth c cc nL own D E kd tc ad rh sa A H0 cells slots μ pc lv Ec kdc adc rhc μc rm.cells rm.slots P st As (As.reverse ++ st) := fun H locs ls C hP hS hl hfb hpre => by
  have hG := gGood hw.1.2.2
  have hwd : ∀ w ∈ BIG, w.before args s = true := C.2.2.2.2.1
  exact va_runS (As := As) (rest := st) ⟨C.1, C.2.1, C.2.2.1, C.2.2.2.1, hwd⟩ (hM H.size) ⟨callB_of n hwd hG rfl rfl rfl (hwd _ hw.1.2.1) (hwd _ hlk) hw.2 hrm, hwd _ hw.1.1⟩ ⟨hfb, hpre⟩ rfl hn hl.1 rfl (lv_room hst) hdg hf
theorem J_hV {y : MethodName} {Ec : List (Nat × Nat)} {kdc : Nat → gKd} {adc : Nat → Nat → Nat} {rhc : gRh} {μc : gM} {P : gPo} {rm : Room} {maxL n idx : Nat} {ret : Option FieldType} {bytes : ByteArray} {f i ci n' fc ic : Nat} {refs : List Nat} {T : u_T} {C0 : String} {As : List Value} (hM : gMetG l y bytes maxL ret rm D Ec kdc tc adc rhc sa (.ref (adc fc ic) :: As) μc P) (hw : wCv y bytes maxL ret n) (hy : y.cls = C0) (hlk : Cond.methodLink own idx y ∈ BIG) (hb : adc fc ic = ad f i) (hE : (f, i) ∈ E) (hk : kd f = .inl (ci, n', refs)) (hc : vwCl[ci]? = some (C0, T, n')) (hn : As.length = n) (hrm : rm.frames + 1 ≤ R.frames ∧ 8 + (maxL + 11) + rm.locals ≤ R.locals) (hf : cells + rm.cells ≤ R.cells ∧ slots + rm.slots ≤ R.slots) (hst : (st.map fun v => v.category).sum ≤ 8) (hdg : decode cc pc = .ok (.invokevirtual idx, 3)) : gRunH p l e R s m args below meth c cc nL own D E kd tc ad rh sa A H0 cells slots μ pc lv Ec kdc adc rhc μc rm.cells rm.slots P st (.ref (adc fc ic) :: As) (As.reverse ++ .ref (adc fc ic) :: st) := fun H locs ls C hP hS hl hfb hpre => by
  subst hy
  obtain ⟨q0, -, hq⟩ := g_at (kd := kd) (tc := tc) (ad := ad) (rh := rh) (μ := μ) hE
  rw [g_fld hk] at hq
  have hwd : ∀ w ∈ BIG, w.before args s = true := C.2.2.2.2.1
  have hrec := va_recv C.2.2.2.2.2.1.1 hP hc hq
  rw [← hb] at hrec
  have hG := gGood hw.1.2.2.2
  exact va_runV (As := As) (rest := st) ⟨C.1, C.2.1, C.2.2.1, C.2.2.2.1, hwd⟩ (hM H.size) ⟨callB_of n hwd hG rfl rfl rfl (hwd _ hw.1.2.2.1) (hwd _ hlk) hw.2 hrm, hwd _ hw.1.1, hwd _ hw.1.2.1⟩ ⟨hfb, hrec, hpre⟩ rfl hn hl.1 rfl (lv_room hst) hdg hf
/-- a method of a class above, that the receiver's class inherits (x) or overrides (y) -/
abbrev wCu (C0 : String) (own : String) (idx : Nat) (x y : MethodName) (bytes : ByteArray) (maxL : Nat) (ret : Option FieldType) (n : Nat) : Prop := (Cond.methodLink own idx x ∈ BIG ∧ Cond.sameMethod x.cls x.cls x.name x.desc ∈ BIG ∧ Cond.instanceMethod x ∈ BIG ∧ (∃ b0 m0 r0, Cond.code x b0 m0 r0 ∈ BIG) ∧ Cond.instanceMethod y ∈ BIG ∧ Cond.initialized y.cls ∈ BIG ∧ Cond.code y bytes maxL ret ∈ BIG) ∧ (x.cls ≠ "java/lang/invoke/MethodHandle" ∧ x.cls ≠ "java/lang/invoke/VarHandle" ∧ (parseMethodDescriptor x.desc).map (fun d => d.parameters.length) = some n)
theorem J_hU {x y : MethodName} {Ec : List (Nat × Nat)} {kdc : Nat → gKd} {adc : Nat → Nat → Nat} {rhc : gRh} {μc : gM} {P : gPo} {rm : Room} {maxL n idx : Nat} {ret : Option FieldType} {bytes : ByteArray} {f i ci n' fc ic : Nat} {refs : List Nat} {T : u_T} {C0 : String} {As : List Value} (hM : gMetG l y bytes maxL ret rm D Ec kdc tc adc rhc sa (.ref (adc fc ic) :: As) μc P) (hw : wCu C0 own idx x y bytes maxL ret n) (hsel : (∀ w ∈ BIG, w.before args s = true) → (Cond.selects C0 x y).before args s = true) (hb : adc fc ic = ad f i) (hE : (f, i) ∈ E) (hk : kd f = .inl (ci, n', refs)) (hc : vwCl[ci]? = some (C0, T, n')) (hn : As.length = n) (hrm : rm.frames + 1 ≤ R.frames ∧ 8 + (maxL + 11) + rm.locals ≤ R.locals) (hf : cells + rm.cells ≤ R.cells ∧ slots + rm.slots ≤ R.slots) (hst : (st.map fun v => v.category).sum ≤ 8) (hdg : decode cc pc = .ok (.invokevirtual idx, 3)) : gRunH p l e R s m args below meth c cc nL own D E kd tc ad rh sa A H0 cells slots μ pc lv Ec kdc adc rhc μc rm.cells rm.slots P st (.ref (adc fc ic) :: As) (As.reverse ++ .ref (adc fc ic) :: st) := fun H locs ls C hP hS hl hfb hpre => by
  obtain ⟨q0, -, hq⟩ := g_at (kd := kd) (tc := tc) (ad := ad) (rh := rh) (μ := μ) hE
  rw [g_fld hk] at hq
  have hwd : ∀ w ∈ BIG, w.before args s = true := C.2.2.2.2.1
  have hrec := va_recv C.2.2.2.2.2.1.1 hP hc hq
  rw [← hb] at hrec
  obtain ⟨⟨w1, w2, w3, ⟨b0, m0, r0, w4⟩, w5, w6, w7⟩, w8, w9, w10⟩ := hw
  have hG := gGood w7
  have hlen : ∀ sig, parseMethodDescriptor x.desc = some sig → n = sig.parameters.length := fun sig h => by
    rw [h] at w10
    exact (Option.some.inj w10).symm
  have cw : va_CU R s args own C0 x.cls idx x y bytes maxL ret (.code y bytes maxL ret :: BIG) rm rm.cells rm.slots n := ⟨⟨rfl, rfl, hrm.1, hrm.2, pay_in hwd hG, List.mem_cons_self⟩, hwd _ w7, hwd _ w6, ⟨w8, w9⟩, hlen, hwd _ w1, hwd _ w2, va_Decl.of (hwd _ w3) (hwd _ w4), hsel hwd, hwd _ w5⟩
  exact va_runU (As := As) (rest := st) ⟨C.1, C.2.1, C.2.2.1, C.2.2.2.1, hwd⟩ (hM H.size) cw ⟨hfb, hrec, hpre⟩ rfl hn hl.1 rfl (lv_room hst) hdg hf
/-- super.m(..) -/
abbrev wCsu (own : String) (idx : Nat) (y : MethodName) (bytes : ByteArray) (maxL : Nat) (ret : Option FieldType) (n : Nat) : Prop := (Cond.methodLink own idx y ∈ BIG ∧ Cond.sameMethod y.cls y.cls y.name y.desc ∈ BIG ∧ Cond.superclass own y.cls ∈ BIG ∧ Cond.instanceMethod y ∈ BIG ∧ Cond.initialized y.cls ∈ BIG ∧ Cond.code y bytes maxL ret ∈ BIG) ∧ (y.name ≠ "<init>" ∧ (parseMethodDescriptor y.desc).map (fun d => d.parameters.length) = some n)
theorem J_hSU {y : MethodName} {Ec : List (Nat × Nat)} {kdc : Nat → gKd} {adc : Nat → Nat → Nat} {rhc : gRh} {μc : gM} {P : gPo} {rm : Room} {maxL n idx : Nat} {ret : Option FieldType} {bytes : ByteArray} {f i ci n' fc ic : Nat} {refs : List Nat} {T : u_T} {C0 : String} {As : List Value} (hM : gMetG l y bytes maxL ret rm D Ec kdc tc adc rhc sa (.ref (adc fc ic) :: As) μc P) (hw : wCsu own idx y bytes maxL ret n) (hb : adc fc ic = ad f i) (hE : (f, i) ∈ E) (hk : kd f = .inl (ci, n', refs)) (hc : vwCl[ci]? = some (C0, T, n')) (hn : As.length = n) (hrm : rm.frames + 1 ≤ R.frames ∧ 8 + (maxL + 11) + rm.locals ≤ R.locals) (hf : cells + rm.cells ≤ R.cells ∧ slots + rm.slots ≤ R.slots) (hst : (st.map fun v => v.category).sum ≤ 8) (hdg : decode cc pc = .ok (.invokespecial idx, 3)) : gRunH p l e R s m args below meth c cc nL own D E kd tc ad rh sa A H0 cells slots μ pc lv Ec kdc adc rhc μc rm.cells rm.slots P st (.ref (adc fc ic) :: As) (As.reverse ++ .ref (adc fc ic) :: st) := fun H locs ls C hP hS hl hfb hpre => by
  obtain ⟨q0, -, hq⟩ := g_at (kd := kd) (tc := tc) (ad := ad) (rh := rh) (μ := μ) hE
  rw [g_fld hk] at hq
  have hwd : ∀ w ∈ BIG, w.before args s = true := C.2.2.2.2.1
  have hrec := va_recv C.2.2.2.2.2.1.1 hP hc hq
  rw [← hb] at hrec
  obtain ⟨⟨w1, w2, w3, w4, w5, w6⟩, w8, w10⟩ := hw
  have hG := gGood w6
  have hlen : ∀ sig, parseMethodDescriptor y.desc = some sig → n = sig.parameters.length := fun sig h => by
    rw [h] at w10
    exact (Option.some.inj w10).symm
  have cw : va_CS R s args own idx y bytes maxL ret (.code y bytes maxL ret :: BIG) rm rm.cells rm.slots n := ⟨⟨rfl, rfl, hrm.1, hrm.2, pay_in hwd hG, List.mem_cons_self⟩, hwd _ w1, hwd _ w2, hwd _ w3, hwd _ w4, hwd _ w5, hwd _ w6, w8, hlen⟩
  exact va_runSU (As := As) (rest := st) (C.2.2.2.2.2.1.1.1 _ _ hc).2 ⟨C.1, C.2.1, C.2.2.1, C.2.2.2.1, hwd⟩ (hM H.size) cw ⟨hfb, hrec, hpre⟩ rfl hn hl.1 rfl (lv_room hst) hdg hf
/-- <init>, on what was made just now -/
abbrev wCi (own : String) (idx : Nat) (y : MethodName) (bytes : ByteArray) (maxL : Nat) (n : Nat) : Prop := (Cond.methodLink own idx y ∈ BIG ∧ Cond.instanceMethod y ∈ BIG ∧ Cond.initialized y.cls ∈ BIG ∧ Cond.code y bytes maxL none ∈ BIG) ∧ y.name = "<init>" ∧ (y.cls ≠ "java/lang/invoke/MethodHandle" ∧ y.cls ≠ "java/lang/invoke/VarHandle" ∧ (parseMethodDescriptor y.desc).map (fun d => d.parameters.length) = some n)
theorem J_hI {y : MethodName} {Ec : List (Nat × Nat)} {kdc : Nat → gKd} {adc : Nat → Nat → Nat} {rhc : gRh} {μc : gM} {P : gPo} {rm : Room} {maxL n idx b : Nat} {bytes : ByteArray} {As : List Value} (hM : gMetG l y bytes maxL none rm D Ec kdc tc adc rhc sa (.ref b :: As) μc P) (hw : wCi own idx y bytes maxL n) (hn : As.length = n) (hrm : rm.frames + 1 ≤ R.frames ∧ 8 + (maxL + 11) + rm.locals ≤ R.locals) (hf : cells + rm.cells ≤ R.cells ∧ slots + rm.slots ≤ R.slots) (hst : (st.map fun v => v.category).sum ≤ 8) (hdg : decode cc pc = .ok (.invokespecial idx, 3)) : gRunH p l e R s m args below meth c cc nL own D E kd tc ad rh sa A H0 cells slots μ pc lv Ec kdc adc rhc μc rm.cells rm.slots P st (.ref b :: As) (As.reverse ++ .ref b :: st) := fun H locs ls C hP hS hl hfb hpre => by
  have hwd : ∀ w ∈ BIG, w.before args s = true := C.2.2.2.2.1
  have hG := gGood hw.1.2.2.2
  exact va_runI (As := As) (rest := st) ⟨C.1, C.2.1, C.2.2.1, C.2.2.2.1, hwd⟩ (hM H.size) ⟨callB_of n hwd hG rfl rfl rfl (hwd _ hw.1.2.2.1) (hwd _ hw.1.1) hw.2.2 hrm, hw.2.1, hwd _ hw.1.2.1⟩ ⟨hfb, hpre⟩ rfl hn hl.1 rfl (lv_room hst) hdg hf
/-- Object.<init> -/
theorem J_objInit {idx a : Nat} (hlk : Cond.methodLink own idx Lib.objectInit ∈ BIG) (hin : Cond.instanceMethod Lib.objectInit ∈ BIG) (hcd : Cond.code Lib.objectInit ⟨#[0xb1]⟩ 1 none ∈ BIG) (hR : 1 ≤ R.frames ∧ (st.map fun v => v.category).sum + 12 ≤ R.locals) (hdg : decode cc pc = .ok (.invokespecial idx, 3)) {pc1 : Nat} (hp : pc + 3 = pc1) (k : J p l e R s m args below meth c cc nL own D E kd tc ad rh sa A H0 cells slots Q μ pc1 lv st) : J p l e R s m args below meth c cc nL own D E kd tc ad rh sa A H0 cells slots Q μ pc lv (.ref a :: st) := by
  subst hp
  intro H locs ls C hP hS hl
  refine W.objInit C.1 C.2.1 C.2.2.2.1 (C.2.2.2.2.1 _ hlk) (C.2.2.2.2.1 _ hin) (C.2.2.2.2.1 _ hcd) rfl (by rw [C.2.2.1]; exact hl.1) rfl hdg hR.1 (by show 2 * 0 + _ + 12 ≤ _; omega) (k H locs ls C hP hS hl)
/-- a private method of the class above is what the receiver's class selects -/
theorem sel_priv {C0 : String} {y z : MethodName} (hy : y.cls ≠ "java/lang/invoke/MethodHandle" ∧ y.cls ≠ "java/lang/invoke/VarHandle") (hz : z.cls = y.cls) (h0 : (Cond.selects C0 z z).before args s = true) (hpriv : (Cond.privateMethod y).before args s = true) (hinst : (Cond.instanceMethod y).before args s = true) : (Cond.selects C0 y y).before args s = true := by
  obtain ⟨c0, r0, m0, h1, h2, h3, h4, k0, h5, h6⟩ := Cond.selects_spec h0
  obtain ⟨mk, methM, hnamed, hmethM, -, -⟩ := Cond.instanceMethod_spec hinst
  have hfound : s.methodFound? y.cls y.name y.desc = some mk := State.methodFound?_of_named hnamed hy
  have hcls : mk.cls = m0.cls := by
    have e1 := findClass_of_methodNamed hnamed
    have e2 := findClass_of_methodNamed h3
    rw [hz] at e2
    exact Option.some.inj (e1.symm.trans e2)
  have hsel : selectMethod {} s.vm c0 mk = .method mk := selectMethod_private hmethM (Cond.privateMethod_at hpriv mk methM hnamed hmethM)
  simp only [Cond.before, Cond.holds, Cond.value, h1, hfound, hnamed, hsel, hcls, h5]
  simp; exact h6
end SB2
