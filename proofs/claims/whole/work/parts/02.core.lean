/-! A world of cells named by (family, number): what each holds is read off one memory of Int32s (gM); references are read off it too (rh). J: from every heap that holds the memory, the frame goes on to Q. -/
abbrev gM : Type := Nat → Nat → Nat → Int32
abbrev gRh : Type := (Nat → Int32) → Nat → Nat → Nat → Option (Nat × Nat)
/-- a family: objects (class's number, fields, which are references); arrays of numbers (class, length); arrays of references (class, length) -/
abbrev gKd : Type := (Nat × Nat × List Nat) ⊕ ((Nat × Nat) ⊕ (Nat × Nat))
def w3 (μ : gM) (f i j : Nat) (v : Int32) : gM := fun f' i' j' => if f' = f ∧ i' = i ∧ j' = j then v else μ f' i' j'
theorem w3_row (μ : gM) (f i j : Nat) (v : Int32) : w3 μ f i j v f i = upd (μ f i) j v := by
  funext k; simp [w3, upd]
theorem w3_ne {μ : gM} {f i j : Nat} {v : Int32} {f' i' : Nat} (h : ¬ (f' = f ∧ i' = i)) : w3 μ f i j v f' i' = μ f' i' := by
  funext k
  unfold w3
  rw [if_neg (fun q => h ⟨q.1, q.2.1⟩)]
def g_va (ad : Nat → Nat → Nat) (r : Option (Nat × Nat)) : Value := va_rf (r.map (fun q => ad q.1 q.2))
def g_v (ad : Nat → Nat → Nat) (rh : gRh) (refs : List Nat) (row : Nat → Int32) (f i k : Nat) : Value := if refs.contains k then g_va ad (rh row f i k) else .int (row k)
def g_e (kd : Nat → gKd) (tc : Nat → ClassId) (ad : Nat → Nat → Nat) (rh : gRh) (row : Nat → Int32) (f i : Nat) : va_E := match kd f with
  | .inl q => .inr (q.1, (List.range q.2.1).map (g_v ad rh q.2.2 row f i))
  | .inr (.inl q) => .inl (tc q.1, q.2, .inl row)
  | .inr (.inr q) => .inl (tc q.1, q.2, .inr (.inr (.inr (.inr (fun j => (rh row f i j).map (fun q => ad q.1 q.2))))))
def g_w (E : List (Nat × Nat)) (kd : Nat → gKd) (tc : Nat → ClassId) (ad : Nat → Nat → Nat) (rh : gRh) (μ : gM) : va_W := E.map (fun q => (ad q.1 q.2, g_e kd tc ad rh (μ q.1 q.2) q.1 q.2))
section GW
variable {E : List (Nat × Nat)} {kd : Nat → gKd} {tc : Nat → ClassId} {ad : Nat → Nat → Nat} {rh : gRh} {μ μ' : gM} {f i j : Nat}
theorem g_at (h : (f, i) ∈ E) : ∃ k : Nat, E[k]? = some (f, i) ∧ (g_w E kd tc ad rh μ)[k]? = some (ad f i, g_e kd tc ad rh (μ f i) f i) := by
  obtain ⟨k, hk⟩ := List.getElem?_of_mem h
  exact ⟨k, hk, by simp [g_w, hk]⟩
theorem g_set {A : Nat → Prop} (hD : va_D A (g_w E kd tc ad rh μ)) {k : Nat} (hk : E[k]? = some (f, i)) (ho : ∀ f' i', ¬ (f' = f ∧ i' = i) → μ' f' i' = μ f' i') : (g_w E kd tc ad rh μ).set k (ad f i, g_e kd tc ad rh (μ' f i) f i) = g_w E kd tc ad rh μ' := by
  apply List.ext_getElem?
  intro n
  have hkl : k < (g_w E kd tc ad rh μ).length := by
    have := (List.getElem?_eq_some_iff.mp hk).1
    simpa [g_w] using this
  by_cases hn : k = n
  · subst hn
    rw [List.getElem?_set_self hkl]
    simp [g_w, hk]
  · rw [List.getElem?_set_ne hn]
    cases he : E[n]? with
    | none => simp [g_w, he]
    | some q =>
      have hq : ¬ (q.1 = f ∧ q.2 = i) := by
        intro hh
        refine hn (hD.1 k n (ad f i, g_e kd tc ad rh (μ f i) f i) (ad q.1 q.2, g_e kd tc ad rh (μ q.1 q.2) q.1 q.2) (by simp [g_w, hk]) (by simp [g_w, he]) (by rw [hh.1, hh.2]))
      simp [g_w, he, ho q.1 q.2 hq]
theorem g_fld {ci n : Nat} {refs : List Nat} (hk : kd f = .inl (ci, n, refs)) (row : Nat → Int32) : g_e kd tc ad rh row f i = .inr (ci, (List.range n).map (g_v ad rh refs row f i)) := by
  unfold g_e; rw [hk]
theorem g_arr {t n : Nat} (hk : kd f = .inr (.inl (t, n))) (row : Nat → Int32) : g_e kd tc ad rh row f i = .inl (tc t, n, .inl row) := by
  unfold g_e; rw [hk]
theorem g_ars {t n : Nat} (hk : kd f = .inr (.inr (t, n))) (row : Nat → Int32) : g_e kd tc ad rh row f i = .inl (tc t, n, .inr (.inr (.inr (.inr (fun j => (rh row f i j).map (fun q => ad q.1 q.2)))))) := by
  unfold g_e; rw [hk]
theorem g_rset {α : Type} (F : Nat → α) (n k : Nat) (x : α) : ((List.range n).map F).set k x = (List.range n).map (fun j => if j = k then x else F j) := by
  apply List.ext_getElem?
  intro m
  by_cases hm : k = m
  · subst hm
    by_cases hl : k < n
    · rw [List.getElem?_set_self (by simpa using hl)]
      simp [hl]
    · simp [hl]
  · rw [List.getElem?_set_ne hm]
    simp only [List.getElem?_map]
    cases h : (List.range n)[m]? with
    | none => rfl
    | some q =>
      have : q = m := by
        have := List.getElem?_eq_some_iff.mp h
        obtain ⟨h1, h2⟩ := this
        simpa using h2.symm
      subst this
      simp [Ne.symm hm]
end GW
/-- the writable addresses: the world's, and what is new since sz -/
def gA (E : List (Nat × Nat)) (ad : Nat → Nat → Nat) (sz : Nat) : Nat → Prop := fun q => (∃ f i, (f, i) ∈ E ∧ q = ad f i) ∨ sz ≤ q
abbrev gT (tc : Nat → ClassId) : List (ClassId × FieldType) := [(tc 0, .int), (tc 1, .char), (tc 2, .object RX4), (tc 3, .object RX2), (tc 4, .byte)]
def jsO : Nat → String := fun i => if i < 24 then "QuorumLog" else if i < 31 then "QuorumLog$Script" else "QuorumLogModel"
def jsI : Nat → Nat := fun i => [40, 54, 64, 80, 83, 105, 114, 133, 141, 154, 168, 173, 196, 211, 213, 228, 230, 269, 275, 306, 310, 334, 356, 369, 52, 58, 60, 62, 64, 66, 68, 217, 275].getD i 0
def jsT : Nat → String := fun i => ["no such members", "the number of ticks is 1 to 60", "the delay is 1 to 5", "no such node", "a link has two nodes", "the node is down", "the node is up", "the node is no leader", "the log is full", "a change of members is under way", "the leader cannot answer a read", "what is 0 to 13", "another node, and what is 0 to 2", "no such entry", "what is 0 to 2", "no such message", "what is 0 to 6", "there is no leader", "no node has won in this term", "the members have no entries", "the input buffer is full", "a command cannot be performed", "the text has no such index", "nothing was saved", "tick", "crash", "restart", "cut", "join", "put", "pack", "tick   crash  restartcut    join   put    pack   ", ""].getD i ""
/-- the letters of the texts that are read, from the 24th on -/
def jsB : Nat → List Int32 := fun i => [[116, 105, 99, 107], [99, 114, 97, 115, 104], [114, 101, 115, 116, 97, 114, 116], [99, 117, 116], [106, 111, 105, 110], [112, 117, 116], [112, 97, 99, 107], [116, 105, 99, 107, 32, 32, 32, 99, 114, 97, 115, 104, 32, 32, 114, 101, 115, 116, 97, 114, 116, 99, 117, 116, 32, 32, 32, 32, 106, 111, 105, 110, 32, 32, 32, 112, 117, 116, 32, 32, 32, 32, 112, 97, 99, 107, 32, 32, 32], []].getD (i - 24) []
/-- words of the throws that the tables' rows keep but for warming -/
def gX : Nat → String := fun i => ["java/lang/IllegalArgumentException", "java/lang/IllegalStateException", "java/lang/IndexOutOfBoundsException", "java/lang/UnsupportedOperationException", "java/util/NoSuchElementException", "java/lang/ArithmeticException"].getD i ""
def gXW : List Cond := (List.range 6).map (fun i => .castable (gX i) (gX i)) ++ [.declares (Bundle.initS "java/lang/RuntimeException"), .declares (Bundle.initS "java/lang/Exception"), .declares (Bundle.initS Bundle.tN)]
theorem gXW_warm {s U : State} (hW : s.WarmedH U.vm) {w : Cond} (hw : w ∈ gXW) (h : va_Nw w s) : va_Nw w U := by
  simp only [gXW, List.mem_append, List.mem_map, List.mem_range, List.mem_cons, List.not_mem_nil, or_false] at hw
  rcases hw with ⟨i, -, rfl⟩ | rfl | rfl | rfl
  · exact va_Nw.warmC hW h
  · exact va_tabs rfl (rfl : (s.setVm U.vm).vm = U.vm) (by rw [Cond.declares_setVm hW.alike]; exact h)
  · exact va_tabs rfl (rfl : (s.setVm U.vm).vm = U.vm) (by rw [Cond.declares_setVm hW.alike]; exact h)
  · exact va_tabs rfl (rfl : (s.setVm U.vm).vm = U.vm) (by rw [Cond.declares_setVm hW.alike]; exact h)
/-- what a method finds outside of its world: the tables' rows of its classes, the constant texts, the statics that the JDK's methods read; none of it in A -/
def gEV (D : va_G) (tc : Nat → ClassId) (sa : Nat → Nat) (A : Nat → Prop) (U : State) (H : Heap) : Prop :=
  va_K D vwCl (gT tc) U ∧ va_Nw (.methodLinkNest RX0 90 yX6_isNode "QuorumLog") U ∧ (∀ i, i < 33 → vk_R (jsO i) (jsI i) (jsT i) (sa (3 * i)) U) ∧
  (∀ i, 24 ≤ i → i < 33 → va_O "java/lang/String" (sa (3 * i)) A U H ∧ va_OF "java/lang/String" "coder" "B" (.int 0) (sa (3 * i)) A U H ∧ va_OF "java/lang/String" "value" "[B" (.ref (sa (3 * i + 1))) (sa (3 * i)) A U H ∧ va_T .byte (sa (3 * i + 1)) (jsB i).length (fun j => .int ((jsB i).getD j 0)) A U H) ∧
  vx_Zq Bundle.tN "UNASSIGNED_STACK" Bundle.steD A U H ∧ vx_Zq Bundle.tN "SUPPRESSED_SENTINEL" Bundle.listD A U H ∧
  va_Z "java/lang/String" "COMPACT_STRINGS" "Z" (.int 1) A U H ∧ va_Zq "jdk/internal/util/Preconditions" "SIOOBE_FORMATTER" "Ljava/util/function/BiFunction;" A U H ∧
  (va_Z "java/lang/Integer" "DigitOnes" "[B" (.ref (sa 1000)) A U H ∧ va_T .byte (sa 1000) 100 (fun j => .int (nI (48 + j % 10))) A U H) ∧ (va_Z "java/lang/Integer" "DigitTens" "[B" (.ref (sa 1001)) A U H ∧ va_T .byte (sa 1001) 100 (fun j => .int (nI (48 + j / 10))) A U H) ∧
  (∀ w ∈ gXW, va_Nw w U) ∧ (∀ i j, i < 6 → j < 6 → i ≠ j → va_Nc (gX i) (gX j) U) ∧ va_AO RX4 U ∧ va_AO RX2 U
theorem gEV.warm {D : va_G} {tc : Nat → ClassId} {sa : Nat → Nat} {A : Nat → Prop} {s U : State} {H : Heap} (hW : s.WarmedH U.vm) (h : gEV D tc sa A s H) : gEV D tc sa A U H := by
  obtain ⟨h1, h2, h3, h4, h5, h6, h7, h8, h9, h10, h11, h12, h13, h14⟩ := h
  have hm := hW.alike
  exact ⟨va_K.moved hm h1, va_Nw.warmM hW h2, fun i hi => (h3 i hi).warm hW, fun i a b => ⟨va_O.moved hm (h4 i a b).1, va_OF.moved hm (h4 i a b).2.1, va_OF.moved hm (h4 i a b).2.2.1, va_T.moved hm (h4 i a b).2.2.2⟩, vx_Zq.moved hm h5, vx_Zq.moved hm h6, va_Z.moved hm h7, va_Zq.moved hm h8, ⟨va_Z.moved hm h9.1, va_T.moved hm h9.2⟩, ⟨va_Z.moved hm h10.1, va_T.moved hm h10.2⟩, fun w hw => gXW_warm hW hw (h11 w hw), fun i j a b c => (h12 i j a b c).moved hm, h13.moved hm, h14.moved hm⟩
theorem gEV.kept {D : va_G} {tc : Nat → ClassId} {sa : Nat → Nat} {A : Nat → Prop} {s : State} {H H1 : Heap} (hq : ∀ a : Nat, a < H.size → ¬ A a → H1[a]? = H[a]?) (h : gEV D tc sa A s H) : gEV D tc sa A s H1 := by
  obtain ⟨h1, h2, h3, h4, h5, h6, h7, h8, h9, h10, h11, h12, h13, h14⟩ := h
  exact ⟨h1, h2, h3, fun i a b => ⟨(h4 i a b).1.kept hq, (h4 i a b).2.1.kept hq, (h4 i a b).2.2.1.kept hq, (h4 i a b).2.2.2.kept hq⟩, h5.kept hq, h6.kept hq, h7.kept hq, h8.kept hq, ⟨h9.1.kept hq, h9.2.kept hq⟩, ⟨h10.1.kept hq, h10.2.kept hq⟩, h11, h12, h13, h14⟩
theorem gEV.narrow {D : va_G} {tc : Nat → ClassId} {sa : Nat → Nat} {A B : Nat → Prop} {s : State} {H : Heap} (hAB : ∀ q, B q → A q) (h : gEV D tc sa A s H) : gEV D tc sa B s H := by
  obtain ⟨h1, h2, h3, h4, h5, h6, h7, h8, h9, h10, h11, h12, h13, h14⟩ := h
  exact ⟨h1, h2, h3, fun i a b => ⟨(h4 i a b).1.narrow hAB, (h4 i a b).2.1.narrow hAB, (h4 i a b).2.2.1.narrow hAB, (h4 i a b).2.2.2.narrow hAB⟩, h5.narrow hAB, h6.narrow hAB, h7.narrow hAB, h8.narrow hAB, ⟨h9.1.narrow hAB, h9.2.narrow hAB⟩, ⟨h10.1.narrow hAB, h10.2.narrow hAB⟩, h11, h12, h13, h14⟩
theorem gEV.call {D : va_G} {tc : Nat → ClassId} {sa : Nat → Nat} {A B : Nat → Prop} {s U : State} {H H0 : Heap} {locs : List Loc} (h : gEV D tc sa A s H0) (hS : va_S A H0 H locs) (hAB : ∀ q, B q → A q) (hU : U.heap = H) (hW : s.WarmedH U.vm) : gEV D tc sa B U U.heap := by
  rw [hU]
  exact gEV.warm hW (gEV.narrow hAB (gEV.kept hS.2.1 h))

/-- what stays fixed in a method's body -/
def Cx (p : Program) (s : State) (m : MethodId) (args : Array Value) (c : Code) (cc : ByteArray) (nL : Nat) (own : String) (D : va_G) (E : List (Nat × Nat)) (kd : Nat → gKd) (tc : Nat → ClassId) (ad : Nat → Nat → Nat) (rh : gRh) (sa : Nat → Nat) (A : Nat → Prop) (H0 : Heap) : Prop :=
  p.tables.exec = Jvm.exec ∧ c.code = cc ∧ c.maxLocals = nL ∧ s.vm.findClass own = some m.cls ∧ (∀ w ∈ BIG, w.before args s = true) ∧ gEV D tc sa A s H0 ∧ (∀ μ, va_D A (g_w E kd tc ad rh μ)) ∧ (∀ q, H0.size ≤ q → A q)
def J (p : Program) (l : Launch) (e : Env) (R : Room) (s : State) (m : MethodId) (args : Array Value) (below : List Frame) (meth : Method) (c : Code) (cc : ByteArray) (nL : Nat) (own : String) (D : va_G) (E : List (Nat × Nat)) (kd : Nat → gKd) (tc : Nat → ClassId) (ad : Nat → Nat → Nat) (rh : gRh) (sa : Nat → Nat) (A : Nat → Prop) (H0 : Heap) (cells slots : Nat) (Q : State → Prop) (μ : gM) (pc : Nat) (lv : List (Nat × Value)) (st : List Value) : Prop :=
  ∀ (H : Heap) (locs : List Loc) (ls : Array Slot), Cx p s m args c cc nL own D E kd tc ad rh sa A H0 → va_P D vwCl (g_w E kd tc ad rh μ) H → va_S A H0 H locs → lv_has ls nL lv → W p l e R s m args below meth c H locs cells slots Q (F0 m pc ls st)
section JR
variable {p : Program} {l : Launch} {e : Env} {R : Room} {s : State} {m : MethodId} {args : Array Value} {below : List Frame} {meth : Method} {c : Code} {cc : ByteArray} {nL : Nat} {own : String} {D : va_G} {E : List (Nat × Nat)} {kd : Nat → gKd} {tc : Nat → ClassId} {ad : Nat → Nat → Nat} {rh : gRh} {sa : Nat → Nat} {A : Nat → Prop} {H0 : Heap} {cells slots : Nat} {Q : State → Prop} {μ : gM} {pc : Nat} {lv : List (Nat × Value)} {st : List Value}

theorem J_iconst {n : Int} {v : Int32} (hdg : decode cc pc = .ok (.iconst n, 1)) (hv : Int32.ofInt n = v) {pc1 : Nat} (hp : pc + 1 = pc1) (k : J p l e R s m args below meth c cc nL own D E kd tc ad rh sa A H0 cells slots Q μ pc1 lv (.int v :: st)) : J p l e R s m args below meth c cc nL own D E kd tc ad rh sa A H0 cells slots Q μ pc lv (st) := by subst hp; exact fun H locs ls C hP hS hl => lv_iconst C.1 C.2.1 hdg hv (k H locs ls C hP hS hl)
theorem J_bipush {n : Int} {v : Int32} (hdg : decode cc pc = .ok (.bipush n, 2)) (hv : (Int8.ofInt n).toInt32 = v) {pc1 : Nat} (hp : pc + 2 = pc1) (k : J p l e R s m args below meth c cc nL own D E kd tc ad rh sa A H0 cells slots Q μ pc1 lv (.int v :: st)) : J p l e R s m args below meth c cc nL own D E kd tc ad rh sa A H0 cells slots Q μ pc lv (st) := by subst hp; exact fun H locs ls C hP hS hl => lv_bipush C.1 C.2.1 hdg hv (k H locs ls C hP hS hl)
theorem J_sipush {n : Int} {v : Int32} (hdg : decode cc pc = .ok (.sipush n, 3)) (hv : (Int16.ofInt n).toInt32 = v) {pc1 : Nat} (hp : pc + 3 = pc1) (k : J p l e R s m args below meth c cc nL own D E kd tc ad rh sa A H0 cells slots Q μ pc1 lv (.int v :: st)) : J p l e R s m args below meth c cc nL own D E kd tc ad rh sa A H0 cells slots Q μ pc lv (st) := by subst hp; exact fun H locs ls C hP hS hl => lv_sipush C.1 C.2.1 hdg hv (k H locs ls C hP hS hl)
theorem J_ldc {n : Nat} {v : Int32} (hw : Cond.constant own n v ∈ BIG) (hdg : decode cc pc = .ok (.ldc n, 2)) {pc1 : Nat} (hp : pc + 2 = pc1) (k : J p l e R s m args below meth c cc nL own D E kd tc ad rh sa A H0 cells slots Q μ pc1 lv (.int v :: st)) : J p l e R s m args below meth c cc nL own D E kd tc ad rh sa A H0 cells slots Q μ pc lv (st) := by subst hp; exact fun H locs ls C hP hS hl => lv_ldc C.1 C.2.1 C.2.2.2.1 (C.2.2.2.2.1 _ hw) hdg (k H locs ls C hP hS hl)
theorem J_iload_n {k0 : Fin 4} {i q : Nat} {x : Int32} (hdg : decode cc pc = .ok (.iload_n k0, 1)) (hi : (k0 : Nat) = i) (hq : lv[q]? = some (i, .int x)) {pc1 : Nat} (hp : pc + 1 = pc1) (k : J p l e R s m args below meth c cc nL own D E kd tc ad rh sa A H0 cells slots Q μ pc1 lv (.int x :: st)) : J p l e R s m args below meth c cc nL own D E kd tc ad rh sa A H0 cells slots Q μ pc lv (st) := by subst hp; exact fun H locs ls C hP hS hl => lv_iload_n C.1 C.2.1 hdg hi (lv_at hl q hq) (k H locs ls C hP hS hl)
theorem J_iload {i q : Nat} {x : Int32} (hdg : decode cc pc = .ok (.iload i, 2)) (hq : lv[q]? = some (i, .int x)) {pc1 : Nat} (hp : pc + 2 = pc1) (k : J p l e R s m args below meth c cc nL own D E kd tc ad rh sa A H0 cells slots Q μ pc1 lv (.int x :: st)) : J p l e R s m args below meth c cc nL own D E kd tc ad rh sa A H0 cells slots Q μ pc lv (st) := by subst hp; exact fun H locs ls C hP hS hl => lv_iload C.1 C.2.1 hdg (lv_at hl q hq) (k H locs ls C hP hS hl)
theorem J_aload_n {k0 : Fin 4} {i q : Nat} {x : Nat} (hdg : decode cc pc = .ok (.aload_n k0, 1)) (hi : (k0 : Nat) = i) (hq : lv[q]? = some (i, .ref x)) {pc1 : Nat} (hp : pc + 1 = pc1) (k : J p l e R s m args below meth c cc nL own D E kd tc ad rh sa A H0 cells slots Q μ pc1 lv (.ref x :: st)) : J p l e R s m args below meth c cc nL own D E kd tc ad rh sa A H0 cells slots Q μ pc lv (st) := by subst hp; exact fun H locs ls C hP hS hl => lv_aload_n C.1 C.2.1 hdg hi (lv_at hl q hq) (k H locs ls C hP hS hl)
theorem J_aload {i q : Nat} {x : Nat} (hdg : decode cc pc = .ok (.aload i, 2)) (hq : lv[q]? = some (i, .ref x)) {pc1 : Nat} (hp : pc + 2 = pc1) (k : J p l e R s m args below meth c cc nL own D E kd tc ad rh sa A H0 cells slots Q μ pc1 lv (.ref x :: st)) : J p l e R s m args below meth c cc nL own D E kd tc ad rh sa A H0 cells slots Q μ pc lv (st) := by subst hp; exact fun H locs ls C hP hS hl => lv_aload C.1 C.2.1 hdg (lv_at hl q hq) (k H locs ls C hP hS hl)
theorem J_istore_n {k0 : Fin 4} {i : Nat} {x : Int32} {lv1 : List (Nat × Value)} (hdg : decode cc pc = .ok (.istore_n k0, 1)) (hi : (k0 : Nat) = i) (hn : i < nL) (hf : (i, Value.int x) :: lv.filter (fun q => !(q.1 == i) && !(q.1 + 1 == i && q.2.category == 2)) = lv1) {pc1 : Nat} (hp : pc + 1 = pc1) (k : J p l e R s m args below meth c cc nL own D E kd tc ad rh sa A H0 cells slots Q μ pc1 lv1 (st)) : J p l e R s m args below meth c cc nL own D E kd tc ad rh sa A H0 cells slots Q μ pc lv (.int x :: st) := by subst hp; exact fun H locs ls C hP hS hl => lv_istore_n C.1 C.2.1 hdg hi hl hn hf (fun ls1 h1 => k H locs ls1 C hP hS h1)
theorem J_istore {i : Nat} {x : Int32} {lv1 : List (Nat × Value)} (hdg : decode cc pc = .ok (.istore i, 2)) (hn : i < nL) (hf : (i, Value.int x) :: lv.filter (fun q => !(q.1 == i) && !(q.1 + 1 == i && q.2.category == 2)) = lv1) {pc1 : Nat} (hp : pc + 2 = pc1) (k : J p l e R s m args below meth c cc nL own D E kd tc ad rh sa A H0 cells slots Q μ pc1 lv1 (st)) : J p l e R s m args below meth c cc nL own D E kd tc ad rh sa A H0 cells slots Q μ pc lv (.int x :: st) := by subst hp; exact fun H locs ls C hP hS hl => lv_istore C.1 C.2.1 hdg hl hn hf (fun ls1 h1 => k H locs ls1 C hP hS h1)
theorem J_astore_n {k0 : Fin 4} {i : Nat} {x : Nat} {lv1 : List (Nat × Value)} (hdg : decode cc pc = .ok (.astore_n k0, 1)) (hi : (k0 : Nat) = i) (hn : i < nL) (hf : (i, Value.ref x) :: lv.filter (fun q => !(q.1 == i) && !(q.1 + 1 == i && q.2.category == 2)) = lv1) {pc1 : Nat} (hp : pc + 1 = pc1) (k : J p l e R s m args below meth c cc nL own D E kd tc ad rh sa A H0 cells slots Q μ pc1 lv1 (st)) : J p l e R s m args below meth c cc nL own D E kd tc ad rh sa A H0 cells slots Q μ pc lv (.ref x :: st) := by subst hp; exact fun H locs ls C hP hS hl => lv_astore_n C.1 C.2.1 hdg hi hl hn hf (fun ls1 h1 => k H locs ls1 C hP hS h1)
theorem J_astore {i : Nat} {x : Nat} {lv1 : List (Nat × Value)} (hdg : decode cc pc = .ok (.astore i, 2)) (hn : i < nL) (hf : (i, Value.ref x) :: lv.filter (fun q => !(q.1 == i) && !(q.1 + 1 == i && q.2.category == 2)) = lv1) {pc1 : Nat} (hp : pc + 2 = pc1) (k : J p l e R s m args below meth c cc nL own D E kd tc ad rh sa A H0 cells slots Q μ pc1 lv1 (st)) : J p l e R s m args below meth c cc nL own D E kd tc ad rh sa A H0 cells slots Q μ pc lv (.ref x :: st) := by subst hp; exact fun H locs ls C hP hS hl => lv_astore C.1 C.2.1 hdg hl hn hf (fun ls1 h1 => k H locs ls1 C hP hS h1)
theorem J_iinc {i q : Nat} {n : Int} {x v : Int32} {lv1 : List (Nat × Value)} (hdg : decode cc pc = .ok (.iinc i n, 3)) (hq : lv[q]? = some (i, .int x)) (hv : x + Int32.ofInt n = v) (hn : i < nL) (hf : (i, Value.int v) :: lv.filter (fun q => !(q.1 == i) && !(q.1 + 1 == i && q.2.category == 2)) = lv1) {pc1 : Nat} (hp : pc + 3 = pc1) (k : J p l e R s m args below meth c cc nL own D E kd tc ad rh sa A H0 cells slots Q μ pc1 lv1 (st)) : J p l e R s m args below meth c cc nL own D E kd tc ad rh sa A H0 cells slots Q μ pc lv (st) := by subst hp; exact fun H locs ls C hP hS hl => lv_iinc C.1 C.2.1 hdg hl hq hv hn hf (fun ls1 h1 => k H locs ls1 C hP hS h1)
theorem J_iadd {x y : Int32} (hdg : decode cc pc = .ok (.iadd, 1)) {pc1 : Nat} (hp : pc + 1 = pc1) (k : J p l e R s m args below meth c cc nL own D E kd tc ad rh sa A H0 cells slots Q μ pc1 lv (.int (x + y) :: st)) : J p l e R s m args below meth c cc nL own D E kd tc ad rh sa A H0 cells slots Q μ pc lv (.int y :: .int x :: st) := by subst hp; exact fun H locs ls C hP hS hl => lv_iadd C.1 C.2.1 hdg (k H locs ls C hP hS hl)
theorem J_isub {x y : Int32} (hdg : decode cc pc = .ok (.isub, 1)) {pc1 : Nat} (hp : pc + 1 = pc1) (k : J p l e R s m args below meth c cc nL own D E kd tc ad rh sa A H0 cells slots Q μ pc1 lv (.int (x - y) :: st)) : J p l e R s m args below meth c cc nL own D E kd tc ad rh sa A H0 cells slots Q μ pc lv (.int y :: .int x :: st) := by subst hp; exact fun H locs ls C hP hS hl => lv_isub C.1 C.2.1 hdg (k H locs ls C hP hS hl)
theorem J_imul {x y : Int32} (hdg : decode cc pc = .ok (.imul, 1)) {pc1 : Nat} (hp : pc + 1 = pc1) (k : J p l e R s m args below meth c cc nL own D E kd tc ad rh sa A H0 cells slots Q μ pc1 lv (.int (x * y) :: st)) : J p l e R s m args below meth c cc nL own D E kd tc ad rh sa A H0 cells slots Q μ pc lv (.int y :: .int x :: st) := by subst hp; exact fun H locs ls C hP hS hl => lv_imul C.1 C.2.1 hdg (k H locs ls C hP hS hl)
theorem J_iand {x y : Int32} (hdg : decode cc pc = .ok (.iand, 1)) {pc1 : Nat} (hp : pc + 1 = pc1) (k : J p l e R s m args below meth c cc nL own D E kd tc ad rh sa A H0 cells slots Q μ pc1 lv (.int (x &&& y) :: st)) : J p l e R s m args below meth c cc nL own D E kd tc ad rh sa A H0 cells slots Q μ pc lv (.int y :: .int x :: st) := by subst hp; exact fun H locs ls C hP hS hl => lv_iand C.1 C.2.1 hdg (k H locs ls C hP hS hl)
theorem J_ior {x y : Int32} (hdg : decode cc pc = .ok (.ior, 1)) {pc1 : Nat} (hp : pc + 1 = pc1) (k : J p l e R s m args below meth c cc nL own D E kd tc ad rh sa A H0 cells slots Q μ pc1 lv (.int (x ||| y) :: st)) : J p l e R s m args below meth c cc nL own D E kd tc ad rh sa A H0 cells slots Q μ pc lv (.int y :: .int x :: st) := by subst hp; exact fun H locs ls C hP hS hl => lv_ior C.1 C.2.1 hdg (k H locs ls C hP hS hl)
theorem J_ixor {x y : Int32} (hdg : decode cc pc = .ok (.ixor, 1)) {pc1 : Nat} (hp : pc + 1 = pc1) (k : J p l e R s m args below meth c cc nL own D E kd tc ad rh sa A H0 cells slots Q μ pc1 lv (.int (x ^^^ y) :: st)) : J p l e R s m args below meth c cc nL own D E kd tc ad rh sa A H0 cells slots Q μ pc lv (.int y :: .int x :: st) := by subst hp; exact fun H locs ls C hP hS hl => lv_ixor C.1 C.2.1 hdg (k H locs ls C hP hS hl)
theorem J_ishl {x y : Int32} (hdg : decode cc pc = .ok (.ishl, 1)) {pc1 : Nat} (hp : pc + 1 = pc1) (k : J p l e R s m args below meth c cc nL own D E kd tc ad rh sa A H0 cells slots Q μ pc1 lv (.int (x <<< (y &&& 31)) :: st)) : J p l e R s m args below meth c cc nL own D E kd tc ad rh sa A H0 cells slots Q μ pc lv (.int y :: .int x :: st) := by subst hp; exact fun H locs ls C hP hS hl => lv_ishl C.1 C.2.1 hdg (k H locs ls C hP hS hl)
theorem J_ishr {x y : Int32} (hdg : decode cc pc = .ok (.ishr, 1)) {pc1 : Nat} (hp : pc + 1 = pc1) (k : J p l e R s m args below meth c cc nL own D E kd tc ad rh sa A H0 cells slots Q μ pc1 lv (.int (x >>> (y &&& 31)) :: st)) : J p l e R s m args below meth c cc nL own D E kd tc ad rh sa A H0 cells slots Q μ pc lv (.int y :: .int x :: st) := by subst hp; exact fun H locs ls C hP hS hl => lv_ishr C.1 C.2.1 hdg (k H locs ls C hP hS hl)
theorem J_idiv {x y : Int32} (hdg : decode cc pc = .ok (.idiv, 1)) (hne : ¬ y = 0) {pc1 : Nat} (hp : pc + 1 = pc1) (k : J p l e R s m args below meth c cc nL own D E kd tc ad rh sa A H0 cells slots Q μ pc1 lv (.int (x / y) :: st)) : J p l e R s m args below meth c cc nL own D E kd tc ad rh sa A H0 cells slots Q μ pc lv (.int y :: .int x :: st) := by subst hp; exact fun H locs ls C hP hS hl => lv_idiv C.1 C.2.1 hdg hne (k H locs ls C hP hS hl)
theorem J_irem {x y : Int32} (hdg : decode cc pc = .ok (.irem, 1)) (hne : ¬ y = 0) {pc1 : Nat} (hp : pc + 1 = pc1) (k : J p l e R s m args below meth c cc nL own D E kd tc ad rh sa A H0 cells slots Q μ pc1 lv (.int (x - x / y * y) :: st)) : J p l e R s m args below meth c cc nL own D E kd tc ad rh sa A H0 cells slots Q μ pc lv (.int y :: .int x :: st) := by subst hp; exact fun H locs ls C hP hS hl => lv_irem C.1 C.2.1 hdg hne (k H locs ls C hP hS hl)
def ushr (x y : Int32) : Int32 := (x.toUInt32 >>> (y.toUInt32 &&& Int32.toUInt32 31)).toInt32
theorem J_iushr {x y : Int32} (hdg : decode cc pc = .ok (.iushr, 1)) {pc1 : Nat} (hp : pc + 1 = pc1) (k : J p l e R s m args below meth c cc nL own D E kd tc ad rh sa A H0 cells slots Q μ pc1 lv (.int (ushr x y) :: st)) : J p l e R s m args below meth c cc nL own D E kd tc ad rh sa A H0 cells slots Q μ pc lv (.int y :: .int x :: st) := by subst hp; exact fun H locs ls C hP hS hl => lv_iushr C.1 C.2.1 hdg rfl (k H locs ls C hP hS hl)
theorem J_ineg {x : Int32} (hdg : decode cc pc = .ok (.ineg, 1)) {pc1 : Nat} (hp : pc + 1 = pc1) (k : J p l e R s m args below meth c cc nL own D E kd tc ad rh sa A H0 cells slots Q μ pc1 lv (.int (-x) :: st)) : J p l e R s m args below meth c cc nL own D E kd tc ad rh sa A H0 cells slots Q μ pc lv (.int x :: st) := by subst hp; exact fun H locs ls C hP hS hl => lv_ineg C.1 C.2.1 hdg (k H locs ls C hP hS hl)
def i2c (x : Int32) : Int32 := (x.toUInt32 % 65536).toInt32
theorem J_i2c {x : Int32} (hdg : decode cc pc = .ok (.i2c, 1)) {pc1 : Nat} (hp : pc + 1 = pc1) (k : J p l e R s m args below meth c cc nL own D E kd tc ad rh sa A H0 cells slots Q μ pc1 lv (.int (i2c x) :: st)) : J p l e R s m args below meth c cc nL own D E kd tc ad rh sa A H0 cells slots Q μ pc lv (.int x :: st) := by subst hp; exact fun H locs ls C hP hS hl => lv_i2c C.1 C.2.1 hdg rfl (k H locs ls C hP hS hl)
theorem J_dup {v : Value} (hdg : decode cc pc = .ok (.dup, 1)) (hc : v.category = 1) {pc1 : Nat} (hp : pc + 1 = pc1) (k : J p l e R s m args below meth c cc nL own D E kd tc ad rh sa A H0 cells slots Q μ pc1 lv (v :: v :: st)) : J p l e R s m args below meth c cc nL own D E kd tc ad rh sa A H0 cells slots Q μ pc lv (v :: st) := by subst hp; exact fun H locs ls C hP hS hl => lv_dup C.1 C.2.1 hdg hc (k H locs ls C hP hS hl)
theorem J_pop {v : Value} (hdg : decode cc pc = .ok (.pop, 1)) (hc : v.category = 1) {pc1 : Nat} (hp : pc + 1 = pc1) (k : J p l e R s m args below meth c cc nL own D E kd tc ad rh sa A H0 cells slots Q μ pc1 lv (st)) : J p l e R s m args below meth c cc nL own D E kd tc ad rh sa A H0 cells slots Q μ pc lv (v :: st) := by subst hp; exact fun H locs ls C hP hS hl => lv_pop C.1 C.2.1 hdg hc (k H locs ls C hP hS hl)
theorem J_dup_x1 {v w : Value} (hdg : decode cc pc = .ok (.dup_x1, 1)) (hc : v.category = 1) (hd : w.category = 1) {pc1 : Nat} (hp : pc + 1 = pc1) (k : J p l e R s m args below meth c cc nL own D E kd tc ad rh sa A H0 cells slots Q μ pc1 lv (v :: w :: v :: st)) : J p l e R s m args below meth c cc nL own D E kd tc ad rh sa A H0 cells slots Q μ pc lv (v :: w :: st) := by subst hp; exact fun H locs ls C hP hS hl => lv_dup_x1 C.1 C.2.1 hdg hc hd (k H locs ls C hP hS hl)
theorem J_dup2 {v w : Value} (hdg : decode cc pc = .ok (.dup2, 1)) (hc : v.category = 1) (hd : w.category = 1) {pc1 : Nat} (hp : pc + 1 = pc1) (k : J p l e R s m args below meth c cc nL own D E kd tc ad rh sa A H0 cells slots Q μ pc1 lv (v :: w :: v :: w :: st)) : J p l e R s m args below meth c cc nL own D E kd tc ad rh sa A H0 cells slots Q μ pc lv (v :: w :: st) := by subst hp; exact fun H locs ls C hP hS hl => lv_dup2_11 C.1 C.2.1 hdg hc hd (k H locs ls C hP hS hl)
theorem J_goto {off : Int} {tgt : Nat} (hdg : decode cc pc = .ok (.goto off, 3)) (ht : (pc : Int) + off = (tgt : Int)) (k : J p l e R s m args below meth c cc nL own D E kd tc ad rh sa A H0 cells slots Q μ (tgt) lv (st)) : J p l e R s m args below meth c cc nL own D E kd tc ad rh sa A H0 cells slots Q μ pc lv (st) := fun H locs ls C hP hS hl => lv_goto C.1 C.2.1 hdg ht (k H locs ls C hP hS hl)
theorem J_icmp_eq {x y : Int32} {off : Int} {tgt : Nat} (hdg : decode cc pc = .ok (.if_icmp .eq off, 3)) (ht : (pc : Int) + off = (tgt : Int)) (kt : x = y → J p l e R s m args below meth c cc nL own D E kd tc ad rh sa A H0 cells slots Q μ tgt lv st) {pc1 : Nat} (hp : pc + 3 = pc1) (kf : ¬ x = y → J p l e R s m args below meth c cc nL own D E kd tc ad rh sa A H0 cells slots Q μ pc1 lv st) : J p l e R s m args below meth c cc nL own D E kd tc ad rh sa A H0 cells slots Q μ pc lv (.int y :: .int x :: st) := by subst hp; exact fun H locs ls C hP hS hl => lv_icmp_eq C.1 C.2.1 hdg ht (fun q => kt q H locs ls C hP hS hl) (fun q => kf q H locs ls C hP hS hl)
theorem J_icmp_ne {x y : Int32} {off : Int} {tgt : Nat} (hdg : decode cc pc = .ok (.if_icmp .ne off, 3)) (ht : (pc : Int) + off = (tgt : Int)) (kt : ¬ x = y → J p l e R s m args below meth c cc nL own D E kd tc ad rh sa A H0 cells slots Q μ tgt lv st) {pc1 : Nat} (hp : pc + 3 = pc1) (kf : x = y → J p l e R s m args below meth c cc nL own D E kd tc ad rh sa A H0 cells slots Q μ pc1 lv st) : J p l e R s m args below meth c cc nL own D E kd tc ad rh sa A H0 cells slots Q μ pc lv (.int y :: .int x :: st) := by subst hp; exact fun H locs ls C hP hS hl => lv_icmp_ne C.1 C.2.1 hdg ht (fun q => kt q H locs ls C hP hS hl) (fun q => kf q H locs ls C hP hS hl)
theorem J_icmp_lt {x y : Int32} {off : Int} {tgt : Nat} (hdg : decode cc pc = .ok (.if_icmp .lt off, 3)) (ht : (pc : Int) + off = (tgt : Int)) (kt : x < y → J p l e R s m args below meth c cc nL own D E kd tc ad rh sa A H0 cells slots Q μ tgt lv st) {pc1 : Nat} (hp : pc + 3 = pc1) (kf : ¬ x < y → J p l e R s m args below meth c cc nL own D E kd tc ad rh sa A H0 cells slots Q μ pc1 lv st) : J p l e R s m args below meth c cc nL own D E kd tc ad rh sa A H0 cells slots Q μ pc lv (.int y :: .int x :: st) := by subst hp; exact fun H locs ls C hP hS hl => lv_icmp_lt C.1 C.2.1 hdg ht (fun q => kt q H locs ls C hP hS hl) (fun q => kf q H locs ls C hP hS hl)
theorem J_icmp_ge {x y : Int32} {off : Int} {tgt : Nat} (hdg : decode cc pc = .ok (.if_icmp .ge off, 3)) (ht : (pc : Int) + off = (tgt : Int)) (kt : y ≤ x → J p l e R s m args below meth c cc nL own D E kd tc ad rh sa A H0 cells slots Q μ tgt lv st) {pc1 : Nat} (hp : pc + 3 = pc1) (kf : ¬ y ≤ x → J p l e R s m args below meth c cc nL own D E kd tc ad rh sa A H0 cells slots Q μ pc1 lv st) : J p l e R s m args below meth c cc nL own D E kd tc ad rh sa A H0 cells slots Q μ pc lv (.int y :: .int x :: st) := by subst hp; exact fun H locs ls C hP hS hl => lv_icmp_ge C.1 C.2.1 hdg ht (fun q => kt q H locs ls C hP hS hl) (fun q => kf q H locs ls C hP hS hl)
theorem J_icmp_gt {x y : Int32} {off : Int} {tgt : Nat} (hdg : decode cc pc = .ok (.if_icmp .gt off, 3)) (ht : (pc : Int) + off = (tgt : Int)) (kt : y < x → J p l e R s m args below meth c cc nL own D E kd tc ad rh sa A H0 cells slots Q μ tgt lv st) {pc1 : Nat} (hp : pc + 3 = pc1) (kf : ¬ y < x → J p l e R s m args below meth c cc nL own D E kd tc ad rh sa A H0 cells slots Q μ pc1 lv st) : J p l e R s m args below meth c cc nL own D E kd tc ad rh sa A H0 cells slots Q μ pc lv (.int y :: .int x :: st) := by subst hp; exact fun H locs ls C hP hS hl => lv_icmp_gt C.1 C.2.1 hdg ht (fun q => kt q H locs ls C hP hS hl) (fun q => kf q H locs ls C hP hS hl)
theorem J_icmp_le {x y : Int32} {off : Int} {tgt : Nat} (hdg : decode cc pc = .ok (.if_icmp .le off, 3)) (ht : (pc : Int) + off = (tgt : Int)) (kt : x ≤ y → J p l e R s m args below meth c cc nL own D E kd tc ad rh sa A H0 cells slots Q μ tgt lv st) {pc1 : Nat} (hp : pc + 3 = pc1) (kf : ¬ x ≤ y → J p l e R s m args below meth c cc nL own D E kd tc ad rh sa A H0 cells slots Q μ pc1 lv st) : J p l e R s m args below meth c cc nL own D E kd tc ad rh sa A H0 cells slots Q μ pc lv (.int y :: .int x :: st) := by subst hp; exact fun H locs ls C hP hS hl => lv_icmp_le C.1 C.2.1 hdg ht (fun q => kt q H locs ls C hP hS hl) (fun q => kf q H locs ls C hP hS hl)
theorem J_if_eq {x : Int32} {off : Int} {tgt : Nat} (hdg : decode cc pc = .ok (.ifCond .eq off, 3)) (ht : (pc : Int) + off = (tgt : Int)) (kt : x = 0 → J p l e R s m args below meth c cc nL own D E kd tc ad rh sa A H0 cells slots Q μ tgt lv st) {pc1 : Nat} (hp : pc + 3 = pc1) (kf : ¬ x = 0 → J p l e R s m args below meth c cc nL own D E kd tc ad rh sa A H0 cells slots Q μ pc1 lv st) : J p l e R s m args below meth c cc nL own D E kd tc ad rh sa A H0 cells slots Q μ pc lv (.int x :: st) := by subst hp; exact fun H locs ls C hP hS hl => lv_if_eq C.1 C.2.1 hdg ht (fun q => kt q H locs ls C hP hS hl) (fun q => kf q H locs ls C hP hS hl)
theorem J_if_ne {x : Int32} {off : Int} {tgt : Nat} (hdg : decode cc pc = .ok (.ifCond .ne off, 3)) (ht : (pc : Int) + off = (tgt : Int)) (kt : ¬ x = 0 → J p l e R s m args below meth c cc nL own D E kd tc ad rh sa A H0 cells slots Q μ tgt lv st) {pc1 : Nat} (hp : pc + 3 = pc1) (kf : x = 0 → J p l e R s m args below meth c cc nL own D E kd tc ad rh sa A H0 cells slots Q μ pc1 lv st) : J p l e R s m args below meth c cc nL own D E kd tc ad rh sa A H0 cells slots Q μ pc lv (.int x :: st) := by subst hp; exact fun H locs ls C hP hS hl => lv_if_ne C.1 C.2.1 hdg ht (fun q => kt q H locs ls C hP hS hl) (fun q => kf q H locs ls C hP hS hl)
theorem J_if_lt {x : Int32} {off : Int} {tgt : Nat} (hdg : decode cc pc = .ok (.ifCond .lt off, 3)) (ht : (pc : Int) + off = (tgt : Int)) (kt : x < 0 → J p l e R s m args below meth c cc nL own D E kd tc ad rh sa A H0 cells slots Q μ tgt lv st) {pc1 : Nat} (hp : pc + 3 = pc1) (kf : ¬ x < 0 → J p l e R s m args below meth c cc nL own D E kd tc ad rh sa A H0 cells slots Q μ pc1 lv st) : J p l e R s m args below meth c cc nL own D E kd tc ad rh sa A H0 cells slots Q μ pc lv (.int x :: st) := by subst hp; exact fun H locs ls C hP hS hl => lv_if_lt C.1 C.2.1 hdg ht (fun q => kt q H locs ls C hP hS hl) (fun q => kf q H locs ls C hP hS hl)
theorem J_if_ge {x : Int32} {off : Int} {tgt : Nat} (hdg : decode cc pc = .ok (.ifCond .ge off, 3)) (ht : (pc : Int) + off = (tgt : Int)) (kt : 0 ≤ x → J p l e R s m args below meth c cc nL own D E kd tc ad rh sa A H0 cells slots Q μ tgt lv st) {pc1 : Nat} (hp : pc + 3 = pc1) (kf : ¬ 0 ≤ x → J p l e R s m args below meth c cc nL own D E kd tc ad rh sa A H0 cells slots Q μ pc1 lv st) : J p l e R s m args below meth c cc nL own D E kd tc ad rh sa A H0 cells slots Q μ pc lv (.int x :: st) := by subst hp; exact fun H locs ls C hP hS hl => lv_if_ge C.1 C.2.1 hdg ht (fun q => kt q H locs ls C hP hS hl) (fun q => kf q H locs ls C hP hS hl)
theorem J_if_gt {x : Int32} {off : Int} {tgt : Nat} (hdg : decode cc pc = .ok (.ifCond .gt off, 3)) (ht : (pc : Int) + off = (tgt : Int)) (kt : 0 < x → J p l e R s m args below meth c cc nL own D E kd tc ad rh sa A H0 cells slots Q μ tgt lv st) {pc1 : Nat} (hp : pc + 3 = pc1) (kf : ¬ 0 < x → J p l e R s m args below meth c cc nL own D E kd tc ad rh sa A H0 cells slots Q μ pc1 lv st) : J p l e R s m args below meth c cc nL own D E kd tc ad rh sa A H0 cells slots Q μ pc lv (.int x :: st) := by subst hp; exact fun H locs ls C hP hS hl => lv_if_gt C.1 C.2.1 hdg ht (fun q => kt q H locs ls C hP hS hl) (fun q => kf q H locs ls C hP hS hl)
theorem J_if_le {x : Int32} {off : Int} {tgt : Nat} (hdg : decode cc pc = .ok (.ifCond .le off, 3)) (ht : (pc : Int) + off = (tgt : Int)) (kt : x ≤ 0 → J p l e R s m args below meth c cc nL own D E kd tc ad rh sa A H0 cells slots Q μ tgt lv st) {pc1 : Nat} (hp : pc + 3 = pc1) (kf : ¬ x ≤ 0 → J p l e R s m args below meth c cc nL own D E kd tc ad rh sa A H0 cells slots Q μ pc1 lv st) : J p l e R s m args below meth c cc nL own D E kd tc ad rh sa A H0 cells slots Q μ pc lv (.int x :: st) := by subst hp; exact fun H locs ls C hP hS hl => lv_if_le C.1 C.2.1 hdg ht (fun q => kt q H locs ls C hP hS hl) (fun q => kf q H locs ls C hP hS hl)
/-- the value on top gets a name -/
theorem J_top {x : Int32} (k : ∀ y : Int32, y = x → J p l e R s m args below meth c cc nL own D E kd tc ad rh sa A H0 cells slots Q μ pc lv (.int y :: st)) : J p l e R s m args below meth c cc nL own D E kd tc ad rh sa A H0 cells slots Q μ pc lv (.int x :: st) := k x rfl
/-- fewer listed locals, in any order -/
theorem J_sub (ks : List Nat) {lv1 : List (Nat × Value)} (h : lv_pick lv ks = lv1) (k : J p l e R s m args below meth c cc nL own D E kd tc ad rh sa A H0 cells slots Q μ pc lv1 st) : J p l e R s m args below meth c cc nL own D E kd tc ad rh sa A H0 cells slots Q μ pc lv st := fun H locs ls C hP hS hl => k H locs ls C hP hS (lv_sub hl ks h)

theorem J_getI {f i ci n idx : Nat} {refs : List Nat} {Cn ref : String} {T : u_T} (hE : (f, i) ∈ E) (hk : kd f = .inl (ci, n, refs)) (hc : vwCl[ci]? = some (Cn, T, n)) (hin : ∀ w ∈ u_ws Cn T n, w ∈ BIG) (k0 : Nat) (hlt : k0 < n) (hr : refs.contains k0 = false) (hw : Cond.fieldLink own idx ref (T k0).2.1 (T k0).2.2.1 ∈ BIG) (href : ref = (T k0).1) (hdg : decode cc pc = .ok (.getfield idx, 3)) {pc1 : Nat} (hp : pc + 3 = pc1) (k : J p l e R s m args below meth c cc nL own D E kd tc ad rh sa A H0 cells slots Q μ pc1 lv (.int (μ f i k0) :: st)) : J p l e R s m args below meth c cc nL own D E kd tc ad rh sa A H0 cells slots Q μ pc lv (.ref (ad f i) :: st) := fun H locs ls C hP hS hl => by
  subst hp
  obtain ⟨q0, -, hq⟩ := g_at (kd := kd) (tc := tc) (ad := ad) (rh := rh) (μ := μ) hE
  rw [g_fld hk] at hq
  exact va_get C.1 C.2.1 C.2.2.2.2.1 hin C.2.2.2.1 C.2.2.2.2.2.1.1 hP q0 hq hc k0 hlt (C.2.2.2.2.1 _ hw) (ref := ref) (fun x hx => by rw [href]; exact hx) (v := .int (μ f i k0)) (by rw [List.getElem?_map, List.getElem?_range hlt]; show some (g_v ad rh refs (μ f i) f i k0) = _; unfold g_v; rw [if_neg (by rw [hr]; decide)]) hdg (k H locs ls C hP hS hl)
theorem J_getR {f i ci n idx f' i' : Nat} {refs : List Nat} {Cn ref : String} {T : u_T} (hE : (f, i) ∈ E) (hk : kd f = .inl (ci, n, refs)) (hc : vwCl[ci]? = some (Cn, T, n)) (hin : ∀ w ∈ u_ws Cn T n, w ∈ BIG) (k0 : Nat) (hlt : k0 < n) (hr : refs.contains k0 = true) (hrh : rh (μ f i) f i k0 = some (f', i')) (hw : Cond.fieldLink own idx ref (T k0).2.1 (T k0).2.2.1 ∈ BIG) (href : ref = (T k0).1) (hdg : decode cc pc = .ok (.getfield idx, 3)) {pc1 : Nat} (hp : pc + 3 = pc1) (k : J p l e R s m args below meth c cc nL own D E kd tc ad rh sa A H0 cells slots Q μ pc1 lv (.ref (ad f' i') :: st)) : J p l e R s m args below meth c cc nL own D E kd tc ad rh sa A H0 cells slots Q μ pc lv (.ref (ad f i) :: st) := fun H locs ls C hP hS hl => by
  subst hp
  obtain ⟨q0, -, hq⟩ := g_at (kd := kd) (tc := tc) (ad := ad) (rh := rh) (μ := μ) hE
  rw [g_fld hk] at hq
  exact va_get C.1 C.2.1 C.2.2.2.2.1 hin C.2.2.2.1 C.2.2.2.2.2.1.1 hP q0 hq hc k0 hlt (C.2.2.2.2.1 _ hw) (ref := ref) (fun x hx => by rw [href]; exact hx) (v := .ref (ad f' i')) (by rw [List.getElem?_map, List.getElem?_range hlt]; simp only [Option.map_some, g_v, hr, if_true, hrh]; rfl) hdg (k H locs ls C hP hS hl)
theorem J_putI {f i ci n idx : Nat} {refs : List Nat} {Cn ref : String} {T : u_T} (hE : (f, i) ∈ E) (hk : kd f = .inl (ci, n, refs)) (hc : vwCl[ci]? = some (Cn, T, n)) (hin : ∀ w ∈ u_ws Cn T n, w ∈ BIG) (ty0 : Nat → FieldType) (hty : ∀ k, k < n → parseFieldDescriptor (T k).2.2.1 = some (ty0 k)) (hnm : ∀ a, a < n → ∀ b, b < n → a ≠ b → (T a).2.1 ≠ (T b).2.1) (k0 : Nat) (hlt : k0 < n) (hr : refs.contains k0 = false) (hrl : ∀ (row : Nat → Int32) (j : Nat) (v : Int32), refs.contains j = true → rh (upd row k0 v) f i j = rh row f i j) (hw : Cond.fieldLink own idx ref (T k0).2.1 (T k0).2.2.1 ∈ BIG) (href : ref = (T k0).1) (hfin : (T k0).2.2.2 = false) {v : Int32} (hn : narrow (ty0 k0) (.int v) = .int v) (hfit : fits (ty0 k0) (.int v) = true) (hdg : decode cc pc = .ok (.putfield idx, 3)) {pc1 : Nat} (hp : pc + 3 = pc1) (k : J p l e R s m args below meth c cc nL own D E kd tc ad rh sa A H0 cells slots Q (w3 μ f i k0 v) pc1 lv st) : J p l e R s m args below meth c cc nL own D E kd tc ad rh sa A H0 cells slots Q μ pc lv (.int v :: .ref (ad f i) :: st) := fun H locs ls C hP hS hl => by
  subst hp
  obtain ⟨q0, hE0, hq⟩ := g_at (kd := kd) (tc := tc) (ad := ad) (rh := rh) (μ := μ) hE
  have hq' := hq
  rw [g_fld hk] at hq'
  refine va_put C.1 C.2.1 C.2.2.2.2.1 hin ty0 hty hnm C.2.2.2.1 C.2.2.2.2.2.1.1 hP (C.2.2.2.2.2.2.1 μ) hS q0 hq' hc k0 hlt (C.2.2.2.2.1 _ hw) (ref := ref) (fun x hx => by rw [href]; exact hx) hfin (hty k0 hlt) hn hfit (by simpa using hlt) hdg (fun H1 locs1 h1 h2 h3 => ?_)
  refine k H1 locs1 ls C ?_ h3 hl
  have e : (Sum.inr (ci, ((List.range n).map (g_v ad rh refs (μ f i) f i)).set k0 (.int v)) : va_E) = g_e kd tc ad rh (w3 μ f i k0 v f i) f i := by
    rw [g_fld hk, g_rset, w3_row]
    show (Sum.inr _ : va_E) = _
    congr 2
    apply List.map_congr_left
    intro j hj
    by_cases hjk : j = k0
    · subst hjk
      simp only [if_true, g_v, hr, Bool.false_eq_true, if_false, upd]
    · rw [if_neg hjk]
      unfold g_v
      by_cases hrj : refs.contains j = true
      · rw [if_pos hrj, if_pos hrj, hrl _ _ _ hrj]
      · rw [if_neg hrj, if_neg hrj]
        simp [upd, hjk]
  have e2 := g_set (kd := kd) (tc := tc) (rh := rh) (μ' := w3 μ f i k0 v) (C.2.2.2.2.2.2.1 μ) hE0 (fun f' i' hne => w3_ne hne)
  rw [← e] at e2
  rw [← e2]
  exact h1
-- arrays of numbers
theorem J_ald_aux {f i t n : Nat} (hE : (f, i) ∈ E) (hk : kd f = .inr (.inl (t, n))) (μ : gM) : ∃ q0 : Nat, E[q0]? = some (f, i) ∧ (g_w E kd tc ad rh μ)[q0]? = some (ad f i, .inl (tc t, n, .inl (μ f i))) := by
  obtain ⟨q0, h0, hq⟩ := g_at (kd := kd) (tc := tc) (ad := ad) (rh := rh) (μ := μ) hE
  rw [g_arr hk] at hq
  exact ⟨q0, h0, hq⟩
theorem J_st_aux {f i t n : Nat} {ix : Nat} {v : Int32} (hD : va_D A (g_w E kd tc ad rh μ)) {q0 : Nat} (h0 : E[q0]? = some (f, i)) (hk : kd f = .inr (.inl (t, n))) : (g_w E kd tc ad rh μ).set q0 (ad f i, .inl (tc t, n, .inl (upd (μ f i) ix v))) = g_w E kd tc ad rh (w3 μ f i ix v) := by
  have e2 := g_set (kd := kd) (tc := tc) (rh := rh) (μ' := w3 μ f i ix v) hD h0 (fun f' i' hne => w3_ne hne)
  rw [g_arr hk, w3_row] at e2
  exact e2
theorem J_iald {f i n ix : Nat} {x : Int32} (hix : x.toNatClampNeg = ix) (hE : (f, i) ∈ E) (hk : kd f = .inr (.inl (0, n))) (hin : vp_in x n) (hdg : decode cc pc = .ok (.iaload, 1)) {pc1 : Nat} (hp : pc + 1 = pc1) (k : J p l e R s m args below meth c cc nL own D E kd tc ad rh sa A H0 cells slots Q μ pc1 lv (.int (μ f i ix) :: st)) : J p l e R s m args below meth c cc nL own D E kd tc ad rh sa A H0 cells slots Q μ pc lv (.int x :: .ref (ad f i) :: st) := fun H locs ls C hP hS hl => by
  subst hix; subst hp
  obtain ⟨q0, -, hq⟩ := J_ald_aux (tc := tc) (ad := ad) (rh := rh) hE hk μ
  exact va_iald C.1 C.2.1 C.2.2.2.2.2.1.1 hP q0 0 hq rfl hin hdg (k H locs ls C hP hS hl)
theorem J_cald {f i n ix : Nat} {x : Int32} (hix : x.toNatClampNeg = ix) (hE : (f, i) ∈ E) (hk : kd f = .inr (.inl (1, n))) (hin : vp_in x n) (hdg : decode cc pc = .ok (.caload, 1)) {pc1 : Nat} (hp : pc + 1 = pc1) (k : J p l e R s m args below meth c cc nL own D E kd tc ad rh sa A H0 cells slots Q μ pc1 lv (.int (μ f i ix) :: st)) : J p l e R s m args below meth c cc nL own D E kd tc ad rh sa A H0 cells slots Q μ pc lv (.int x :: .ref (ad f i) :: st) := fun H locs ls C hP hS hl => by
  subst hix; subst hp
  obtain ⟨q0, -, hq⟩ := J_ald_aux (tc := tc) (ad := ad) (rh := rh) hE hk μ
  exact va_cald C.1 C.2.1 C.2.2.2.2.2.1.1 hP q0 1 hq rfl hin hdg (k H locs ls C hP hS hl)
theorem J_iast {f i n ix : Nat} {x v : Int32} (hix : x.toNatClampNeg = ix) (hE : (f, i) ∈ E) (hk : kd f = .inr (.inl (0, n))) (hin : vp_in x n) (hdg : decode cc pc = .ok (.iastore, 1)) {pc1 : Nat} (hp : pc + 1 = pc1) (k : J p l e R s m args below meth c cc nL own D E kd tc ad rh sa A H0 cells slots Q (w3 μ f i ix v) pc1 lv st) : J p l e R s m args below meth c cc nL own D E kd tc ad rh sa A H0 cells slots Q μ pc lv (.int v :: .int x :: .ref (ad f i) :: st) := fun H locs ls C hP hS hl => by
  subst hix; subst hp
  obtain ⟨q0, h0, hq⟩ := J_ald_aux (tc := tc) (ad := ad) (rh := rh) hE hk μ
  refine va_iast C.1 C.2.1 C.2.2.2.2.2.1.1 hP (C.2.2.2.2.2.2.1 μ) hS q0 0 hq rfl hin hdg (fun H1 locs1 h1 h2 h3 => k H1 locs1 ls C ?_ h3 hl)
  rw [J_st_aux (C.2.2.2.2.2.2.1 μ) h0 hk] at h1
  exact h1
theorem J_cast {f i n ix : Nat} {x v : Int32} (hix : x.toNatClampNeg = ix) (hE : (f, i) ∈ E) (hk : kd f = .inr (.inl (1, n))) (hin : vp_in x n) (hv : vp_nar .char v = v) (hdg : decode cc pc = .ok (.castore, 1)) {pc1 : Nat} (hp : pc + 1 = pc1) (k : J p l e R s m args below meth c cc nL own D E kd tc ad rh sa A H0 cells slots Q (w3 μ f i ix v) pc1 lv st) : J p l e R s m args below meth c cc nL own D E kd tc ad rh sa A H0 cells slots Q μ pc lv (.int v :: .int x :: .ref (ad f i) :: st) := fun H locs ls C hP hS hl => by
  subst hix; subst hp
  obtain ⟨q0, h0, hq⟩ := J_ald_aux (tc := tc) (ad := ad) (rh := rh) hE hk μ
  refine va_cast C.1 C.2.1 C.2.2.2.2.2.1.1 hP (C.2.2.2.2.2.2.1 μ) hS q0 1 hq rfl hin hdg (fun H1 locs1 h1 h2 h3 => k H1 locs1 ls C ?_ h3 hl)
  rw [hv, J_st_aux (C.2.2.2.2.2.2.1 μ) h0 hk] at h1
  exact h1
theorem J_alen {f i t n : Nat} {ty : FieldType} {v : Int32} (hE : (f, i) ∈ E) (hk : kd f = .inr (.inl (t, n))) (ht : (gT tc)[t]? = some (tc t, ty)) (hv : Int32.ofNat n = v) (hdg : decode cc pc = .ok (.arraylength, 1)) {pc1 : Nat} (hp : pc + 1 = pc1) (k : J p l e R s m args below meth c cc nL own D E kd tc ad rh sa A H0 cells slots Q μ pc1 lv (.int v :: st)) : J p l e R s m args below meth c cc nL own D E kd tc ad rh sa A H0 cells slots Q μ pc lv (.ref (ad f i) :: st) := fun H locs ls C hP hS hl => by
  subst hp
  obtain ⟨q0, h0, hq⟩ := J_ald_aux (tc := tc) (ad := ad) (rh := rh) hE hk μ
  exact va_alen C.1 C.2.1 C.2.2.2.2.2.1.1 hP q0 t hq ht hv hdg (k H locs ls C hP hS hl)
-- arrays of references
theorem J_aald {f i t n f' i' : Nat} {Cn : String} {x : Int32} (hE : (f, i) ∈ E) (hk : kd f = .inr (.inr (t, n))) (ht : (gT tc)[t]? = some (tc t, .object Cn)) (hin : vp_in x n) (hrh : rh (μ f i) f i x.toNatClampNeg = some (f', i')) (hdg : decode cc pc = .ok (.aaload, 1)) {pc1 : Nat} (hp : pc + 1 = pc1) (k : J p l e R s m args below meth c cc nL own D E kd tc ad rh sa A H0 cells slots Q μ pc1 lv (.ref (ad f' i') :: st)) : J p l e R s m args below meth c cc nL own D E kd tc ad rh sa A H0 cells slots Q μ pc lv (.int x :: .ref (ad f i) :: st) := fun H locs ls C hP hS hl => by
  subst hp
  obtain ⟨q0, -, hq⟩ := g_at (kd := kd) (tc := tc) (ad := ad) (rh := rh) (μ := μ) hE
  rw [g_ars hk] at hq
  refine va_aldq C.1 C.2.1 C.2.2.2.2.2.1.1 hP q0 t hq ht hin hdg ?_
  rw [hrh]
  exact k H locs ls C hP hS hl
theorem J_aast {f i t n f' i' ci n' : Nat} {refs : List Nat} {r : vw_C} {x v : Int32} (hE : (f, i) ∈ E) (hk : kd f = .inr (.inr (t, n))) (ht : (gT tc)[t]? = some (tc t, .object r.1)) (hE' : (f', i') ∈ E) (hk' : kd f' = .inl (ci, n', refs)) (hc : vwCl[ci]? = some r) (hin : vp_in x n) (hrh : ∀ (row : Nat → Int32) (j : Nat), rh (upd row x.toNatClampNeg v) f i j = if j = x.toNatClampNeg then some (f', i') else rh row f i j) (hdg : decode cc pc = .ok (.aastore, 1)) {pc1 : Nat} (hp : pc + 1 = pc1) (k : J p l e R s m args below meth c cc nL own D E kd tc ad rh sa A H0 cells slots Q (w3 μ f i x.toNatClampNeg v) pc1 lv st) : J p l e R s m args below meth c cc nL own D E kd tc ad rh sa A H0 cells slots Q μ pc lv (.ref (ad f' i') :: .int x :: .ref (ad f i) :: st) := fun H locs ls C hP hS hl => by
  subst hp
  obtain ⟨q0, h0, hq⟩ := g_at (kd := kd) (tc := tc) (ad := ad) (rh := rh) (μ := μ) hE
  obtain ⟨q1, h1', hq1⟩ := g_at (kd := kd) (tc := tc) (ad := ad) (rh := rh) (μ := μ) hE'
  have e2 := g_set (kd := kd) (tc := tc) (rh := rh) (μ' := w3 μ f i x.toNatClampNeg v) (C.2.2.2.2.2.2.1 μ) h0 (fun f' i' hne => w3_ne hne)
  rw [g_ars hk] at hq
  rw [g_fld hk'] at hq1
  refine va_astq C.1 C.2.1 C.2.2.2.2.2.1.1 hP (C.2.2.2.2.2.2.1 μ) hS q0 t q1 ci hq ht hq1 hc hin hdg (fun H1 locs1 h1 h2 h3 => k H1 locs1 ls C ?_ h3 hl)
  rw [← e2, g_ars hk, w3_row]
  have e3 : (va_up (fun j => (rh (μ f i) f i j).map (fun q => ad q.1 q.2)) x.toNatClampNeg (some (ad f' i'))) = (fun j => (rh (upd (μ f i) x.toNatClampNeg v) f i j).map (fun q => ad q.1 q.2)) := by
    funext j
    rw [hrh]
    unfold va_up
    by_cases hj : j = x.toNatClampNeg
    · rw [if_pos hj, if_pos hj]; rfl
    · rw [if_neg hj, if_neg hj]
  rw [e3] at h1
  exact h1
/-- System.arraycopy between two arrays of ints -/
theorem J_copy {f i f1 i1 n0 n1 idx : Nat} {sp dp n : Int32} {μ' : gM} (hE : (f, i) ∈ E) (hk : kd f = .inr (.inl (0, n0))) (hE1 : (f1, i1) ∈ E) (hk1 : kd f1 = .inr (.inl (0, n1))) (hl1 : Cond.methodLink own idx arraycopyName ∈ BIG) (hl2 : Cond.native arraycopyName ∈ BIG) (hl3 : Cond.static arraycopyName ∈ BIG) (hl4 : Cond.initialized "java/lang/System" ∈ BIG)
    (h1 : ¬ sp < 0) (h2 : ¬ dp < 0) (h3 : ¬ n < 0) (h4 : sp.toNatClampNeg + n.toNatClampNeg ≤ n0) (h5 : dp.toNatClampNeg + n.toNatClampNeg ≤ n1) (hm : μ' f1 i1 = va_cpy (μ f i) (μ f1 i1) sp.toNatClampNeg dp.toNatClampNeg n.toNatClampNeg) (ho : ∀ f' i', ¬ (f' = f1 ∧ i' = i1) → μ' f' i' = μ f' i') (hR : 1 ≤ R.frames ∧ (st.map fun v => v.category).sum + (nativeFrameWords "java/lang/System" "arraycopy" 5 + 11) ≤ R.locals)
    (hdg : decode cc pc = .ok (.invokestatic idx, 3)) {pc1 : Nat} (hp : pc + 3 = pc1) (k : J p l e R s m args below meth c cc nL own D E kd tc ad rh sa A H0 cells slots Q μ' pc1 lv st) : J p l e R s m args below meth c cc nL own D E kd tc ad rh sa A H0 cells slots Q μ pc lv (.int n :: .int dp :: .ref (ad f1 i1) :: .int sp :: .ref (ad f i) :: st) := fun H locs ls C hP hS hl => by
  subst hp
  obtain ⟨q0, -, hq⟩ := J_ald_aux (tc := tc) (ad := ad) (rh := rh) hE hk μ
  obtain ⟨q1, h1', hq1⟩ := J_ald_aux (tc := tc) (ad := ad) (rh := rh) hE1 hk1 μ
  have e2 := g_set (kd := kd) (tc := tc) (rh := rh) (μ' := μ') (C.2.2.2.2.2.2.1 μ) h1' ho
  rw [g_arr hk1, hm] at e2
  refine va_copyi C.1 C.2.1 (C.2.2.1.trans hl.1.symm) C.2.2.2.1 (C.2.2.2.2.1 _ hl1) (C.2.2.2.2.1 _ hl2) (C.2.2.2.2.1 _ hl3) (C.2.2.2.2.1 _ hl4) C.2.2.2.2.2.1.1 hP (C.2.2.2.2.2.2.1 μ) hS q0 q1 0 0 hq hq1 rfl rfl rfl h1 h2 h3 h4 h5 (fun _ _ => rfl) hR.1 hR.2 hdg (fun H1 locs1 g1 g2 g3 => k H1 locs1 ls C ?_ g3 hl)
  rw [← e2]
  exact g1
/-- where a method ends: what it answers, what the world holds -/
def gQ (D : va_G) (E : List (Nat × Nat)) (kd : Nat → gKd) (tc : Nat → ClassId) (ad : Nat → Nat → Nat) (rh : gRh) (sz : Nat) (o : Option Value) (μ' : gM) : Array Value → State → Outcome → State → Prop := fun _ st oc t => oc = .returned o ∧ va_P D vwCl (g_w E kd tc ad rh μ') t.heap ∧ va_F (gA E ad sz) st t
def gPc (D : va_G) (E : List (Nat × Nat)) (kd : Nat → gKd) (tc : Nat → ClassId) (ad : Nat → Nat → Nat) (rh : gRh) (sa : Nat → Nat) (sz : Nat) (av : List Value) (μ : gM) : Array Value → State → Prop := va_Pc av (fun U => U.heap.size = sz ∧ va_P D vwCl (g_w E kd tc ad rh μ) U.heap ∧ gEV D tc sa (gA E ad sz) U U.heap)
theorem gPc_blind {sz : Nat} {av : List Value} : FrameBlind (gPc D E kd tc ad rh sa sz av μ) := fun a U g mk q => ⟨q.1, q.2.1, q.2.2.1, gEV.warm (s := U) (U := U.calling g mk a) (State.WarmedH.refl U) q.2.2.2⟩
/-- the cells of the world are apart -/
def gI (E : List (Nat × Nat)) (ad : Nat → Nat → Nat) : Prop := ∀ (i j : Nat) (p q : Nat × Nat), E[i]? = some p → E[j]? = some q → ad p.1 p.2 = ad q.1 q.2 → i = j
theorem g_D {sz : Nat} (hI : gI E ad) (μ : gM) : va_D (gA E ad sz) (g_w E kd tc ad rh μ) := by
  have key : ∀ (k : Nat) (q : Nat × va_E), (g_w E kd tc ad rh μ)[k]? = some q → ∃ c : Nat × Nat, E[k]? = some c ∧ q.1 = ad c.1 c.2 := by
    intro k q h
    simp only [g_w, List.getElem?_map] at h
    cases hc : E[k]? with
    | none => rw [hc] at h; cases h
    | some c => rw [hc] at h; cases h; exact ⟨c, rfl, rfl⟩
  refine ⟨fun i j p q hi hj hpq => ?_, fun k q hk => ?_⟩
  · obtain ⟨c1, a1, b1⟩ := key i p hi
    obtain ⟨c2, a2, b2⟩ := key j q hj
    exact hI i j c1 c2 a1 a2 (by rw [← b1, ← b2]; exact hpq)
  · obtain ⟨c1, a1, b1⟩ := key k q hk
    exact Or.inl ⟨c1.1, c1.2, List.mem_of_getElem? a1, b1⟩
theorem g_lt (hP : va_P D vwCl (g_w E kd tc ad rh μ) H0) {f i : Nat} (h : (f, i) ∈ E) : ad f i < H0.size := by
  obtain ⟨k, -, hk⟩ := g_at (kd := kd) (tc := tc) (ad := ad) (rh := rh) (μ := μ) h
  exact (hP k _ hk).lt
/-- a contract over the world -/
def gMet (l : Launch) (y : MethodName) (cc : ByteArray) (maxL : Nat) (ret : Option FieldType) (rm : Room) (D : va_G) (E : List (Nat × Nat)) (kd : Nat → gKd) (tc : Nat → ClassId) (ad : Nat → Nat → Nat) (rh : gRh) (sa : Nat → Nat) (av : List Value) (μ : gM) (o : Option Value) (μ' : gM) : Prop :=
  ∀ sz : Nat, Met l y (.code y cc maxL ret :: BIG) rm (gPc D E kd tc ad rh sa sz av μ) (gQ D E kd tc ad rh sz o μ') 0 0 (gA E ad sz)
theorem gMet_of {y : MethodName} {maxL : Nat} {ret : Option FieldType} {av : List Value} {o : Option Value} {μ' : gM} (hI : gI E ad) (hy : plainName y.cls = true ∧ (lg_sl av).length ≤ maxL)
    (body : ∀ (p : Program) (e : Env) (s : State) (m : MethodId) (args : Array Value) (below : List Frame) (meth : Method) (c : Code) (sz : Nat), meth.sig.returnType = ret → meth.locks = false → J p l e R s m args below meth c cc maxL y.cls D E kd tc ad rh sa (gA E ad sz) s.heap 0 0 (MQ below (gQ D E kd tc ad rh sz o μ') args s 0 0 (gA E ad sz)) μ 0 (lv_args 0 av) []) : gMet l y cc maxL ret R D E kd tc ad rh sa av μ o μ' := by
  intro sz
  refine Met.ofW (cc := cc) (maxL := maxL) (ret := ret) hy.1 rfl ?_
  intro p e s m args below meth c s₁ B hml hv
  obtain ⟨rfl, hsz, hP, hK⟩ := hv
  have hts := atoms_spec (ws := .code y cc maxL ret :: BIG) B.pre
  have hown : s.vm.findClass y.cls = some m.cls := findClass_of_methodNamed B.named
  have hl := lv_entry av (n := maxL) hy.2
  rw [lg_entry_eq]
  generalize (lg_sl av ++ List.replicate (maxL - (lg_sl av).length) Slot.unset).toArray = ls at hl ⊢
  exact body p e s m _ below meth c sz B.returns B.notSynchronized s.heap [] ls ⟨B.exec, B.bytes, hml, hown, fun w hw => hts w (List.mem_cons_of_mem _ hw), by rw [← hsz] at hK ⊢; exact hK, fun μ => g_D hI μ, fun q h => Or.inr (by rw [← hsz]; exact h)⟩ hP va_S.rf hl
/-- the ends -/
theorem J_iret {sz : Nat} {v : Int32} (hr : meth.sig.returnType = some .int) (hlk : meth.locks = false) (hdg : decode cc pc = .ok (.ireturn, 1)) : J p l e R s m args below meth c cc nL own D E kd tc ad rh sa (gA E ad sz) s.heap 0 0 (MQ below (gQ D E kd tc ad rh sz (some (.int v)) μ) args s 0 0 (gA E ad sz)) μ pc lv [.int v] := fun H locs ls C hP hS hl =>
  W.iret C.1 C.2.1 hr (fun t ht hW => ⟨rfl, by rw [ht]; exact hP, hS.F ht⟩) hS.2.2 hdg hlk
theorem J_zret {sz : Nat} {v : Int32} (hb : v = 0 ∨ v = 1) (hr : meth.sig.returnType = some .boolean) (hlk : meth.locks = false) (hdg : decode cc pc = .ok (.ireturn, 1)) : J p l e R s m args below meth c cc nL own D E kd tc ad rh sa (gA E ad sz) s.heap 0 0 (MQ below (gQ D E kd tc ad rh sz (some (.int v)) μ) args s 0 0 (gA E ad sz)) μ pc lv [.int v] := fun H locs ls C hP hS hl =>
  W.zret C.1 C.2.1 hr (by rcases hb with rfl | rfl <;> rfl) (fun t ht hW => ⟨rfl, by rw [ht]; exact hP, hS.F ht⟩) hS.2.2 hdg hlk
theorem J_cret {sz : Nat} {v : Int32} (hb : vp_nar .char v = v) (hr : meth.sig.returnType = some .char) (hlk : meth.locks = false) (hdg : decode cc pc = .ok (.ireturn, 1)) : J p l e R s m args below meth c cc nL own D E kd tc ad rh sa (gA E ad sz) s.heap 0 0 (MQ below (gQ D E kd tc ad rh sz (some (.int v)) μ) args s 0 0 (gA E ad sz)) μ pc lv [.int v] := fun H locs ls C hP hS hl =>
  W.zret C.1 C.2.1 hr (congrArg Value.int hb) (fun t ht hW => ⟨rfl, by rw [ht]; exact hP, hS.F ht⟩) hS.2.2 hdg hlk
theorem J_vret {sz : Nat} (hr : meth.sig.returnType = none) (hlk : meth.locks = false) (hdg : decode cc pc = .ok (.return_, 1)) : J p l e R s m args below meth c cc nL own D E kd tc ad rh sa (gA E ad sz) s.heap 0 0 (MQ below (gQ D E kd tc ad rh sz none μ) args s 0 0 (gA E ad sz)) μ pc lv [] := fun H locs ls C hP hS hl =>
  W.vret C.1 C.2.1 hr (fun t ht hW => ⟨rfl, by rw [ht]; exact hP, hS.F ht⟩) hS.2.2 hdg hlk
theorem J_aret {sz a : Nat} {Cn : String} (hr : meth.sig.returnType = some (.object Cn)) (hlk : meth.locks = false) (hdg : decode cc pc = .ok (.areturn, 1)) : J p l e R s m args below meth c cc nL own D E kd tc ad rh sa (gA E ad sz) s.heap 0 0 (MQ below (gQ D E kd tc ad rh sz (some (.ref a)) μ) args s 0 0 (gA E ad sz)) μ pc lv [.ref a] := fun H locs ls C hP hS hl =>
  W.aret C.1 C.2.1 hr (Or.inl ⟨_, rfl⟩) (Or.inr ⟨_, rfl⟩) (fun t ht hW => ⟨rfl, by rw [ht]; exact hP, hS.F ht⟩) hS.2.2 hdg hlk
/-- what a callee needs of the words, once a method -/
abbrev wCv (y : MethodName) (bytes : ByteArray) (maxL : Nat) (ret : Option FieldType) (n : Nat) : Prop := (Cond.instanceMethod y ∈ BIG ∧ Cond.selects y.cls y y ∈ BIG ∧ Cond.initialized y.cls ∈ BIG ∧ Cond.code y bytes maxL ret ∈ BIG) ∧ (y.cls ≠ "java/lang/invoke/MethodHandle" ∧ y.cls ≠ "java/lang/invoke/VarHandle" ∧ (parseMethodDescriptor y.desc).map (fun d => d.parameters.length) = some n)
abbrev wCs (y : MethodName) (bytes : ByteArray) (maxL : Nat) (ret : Option FieldType) (n : Nat) : Prop := (Cond.static y ∈ BIG ∧ Cond.initialized y.cls ∈ BIG ∧ Cond.code y bytes maxL ret ∈ BIG) ∧ (y.cls ≠ "java/lang/invoke/MethodHandle" ∧ y.cls ≠ "java/lang/invoke/VarHandle" ∧ (parseMethodDescriptor y.desc).map (fun d => d.parameters.length) = some n)
theorem gGood {y : MethodName} {bytes : ByteArray} {maxL : Nat} {ret : Option FieldType} (h : Cond.code y bytes maxL ret ∈ BIG) : GoodIn BIG (.code y bytes maxL ret :: BIG) := fun w hw => (List.mem_cons.mp hw).elim (fun e => by rw [e]; exact ⟨h, good_of_word (big_good h)⟩) (fun h => ⟨h, good_of_word (big_good h)⟩)
theorem J_back {A1 : Nat → Prop} {rest : List Value} {o : Option Value} {μ1 : gM} {st0 : List Value} {H : Heap} {locs : List Loc} {ls : Array Slot} (hA1 : ∀ q, A1 q → A q)
    (hr : va_Run p l e R s m args below meth c H locs cells slots 0 0 (F0 m pc ls st0) rest (fun st oc t => oc = .returned o ∧ va_P D vwCl (g_w E kd tc ad rh μ1) t.heap ∧ va_F A1 st t) A1) (hS : va_S A H0 H locs) (hl : lv_has ls nL lv) (C : Cx p s m args c cc nL own D E kd tc ad rh sa A H0)
    (k : J p l e R s m args below meth c cc nL own D E kd tc ad rh sa A H0 cells slots Q μ1 (pc + 3) lv (o.toList ++ rest)) : W p l e R s m args below meth c H locs cells slots Q (F0 m pc ls st0) := by
  intro T hT X
  obtain ⟨v, st₀, t, T', L, h0, X', hL, e1, e2, ⟨hv, hP1, hz, hk⟩, stp⟩ := hr T hT X
  cases hv
  rw [h0] at hz hk
  obtain ⟨t2, a1, b1⟩ := k T'.heap (locs ++ L) ls C (by rw [e1]; exact hP1) ⟨Nat.le_trans hS.1 (by rw [e1]; exact hz), fun q h1 h2 => by rw [e1, hk q (Nat.lt_of_lt_of_le h1 hS.1) (fun z => h2 (hA1 q z))]; exact hS.2.1 q h1 h2, fun q hq => by
      rcases List.mem_append.mp hq with h | h
      · exact hS.2.2 q h
      · exact hA1 _ (hL q h)⟩ hl T' rfl X'
  exact ⟨t2, stp t2 a1, b1⟩
theorem gA_le {H : Heap} {locs : List Loc} (hA : ∀ q, (∃ f i, (f, i) ∈ E ∧ q = ad f i) → A q) (hH : ∀ q, H0.size ≤ q → A q) (hS : va_S A H0 H locs) : ∀ q, gA E ad H.size q → A q := fun q h => h.elim (hA q) (fun h => hH q (Nat.le_trans hS.1 h))
theorem g_inA (C : Cx p s m args c cc nL own D E kd tc ad rh sa A H0) : ∀ q, (∃ f i, (f, i) ∈ E ∧ q = ad f i) → A q := fun q h => by
  obtain ⟨f, i, h1, rfl⟩ := h
  obtain ⟨k, -, hk⟩ := g_at (kd := kd) (tc := tc) (ad := ad) (rh := rh) (μ := fun _ _ _ => 0) h1
  exact (C.2.2.2.2.2.2.1 _).2 k _ hk
theorem J_callV {y : MethodName} {bytes : ByteArray} {maxL n idx f i ci n' : Nat} {refs : List Nat} {T : u_T} {ret : Option FieldType} {rm : Room} {As : List Value} {o : Option Value} {μ1 : gM} (hM : gMet l y bytes maxL ret rm D E kd tc ad rh sa (.ref (ad f i) :: As) μ o μ1) (hw : wCv y bytes maxL ret n) (hlk : Cond.methodLink own idx y ∈ BIG) (hE : (f, i) ∈ E) (hk : kd f = .inl (ci, n', refs)) (hc : vwCl[ci]? = some (y.cls, T, n')) (hn : As.length = n) (hrm : rm.cells = 0 ∧ rm.slots = 0 ∧ rm.frames + 1 ≤ R.frames ∧ 8 + (maxL + 11) + rm.locals ≤ R.locals) (hf : cells ≤ R.cells ∧ slots ≤ R.slots) (hst : (st.map fun v => v.category).sum ≤ 8) (hdg : decode cc pc = .ok (.invokevirtual idx, 3)) {st1 : List Value} (hs : o.toList ++ st = st1) {pc1 : Nat} (hp : pc + 3 = pc1) (k : J p l e R s m args below meth c cc nL own D E kd tc ad rh sa A H0 cells slots Q μ1 pc1 lv st1) : J p l e R s m args below meth c cc nL own D E kd tc ad rh sa A H0 cells slots Q μ pc lv (As.reverse ++ .ref (ad f i) :: st) := fun H locs ls C hP hS hl => by
  subst hs
  subst hp
  obtain ⟨q0, -, hq⟩ := g_at (kd := kd) (tc := tc) (ad := ad) (rh := rh) (μ := μ) hE
  rw [g_fld hk] at hq
  have hG := gGood hw.1.2.2.2
  have hwd : ∀ w ∈ BIG, w.before args s = true := C.2.2.2.2.1
  have cw : CallW R s args own y.cls idx y bytes maxL ret (.code y bytes maxL ret :: BIG) rm 0 0 n := ⟨callB_of n hwd hG rfl hrm.1 hrm.2.1 (hwd _ hw.1.2.2.1) (hwd _ hlk) hw.2 hrm.2.2, hwd _ hw.1.1, hwd _ hw.1.2.1⟩
  exact J_back (gA_le (g_inA C) C.2.2.2.2.2.2.2 hS) (va_runV (As := As) (rest := st) ⟨C.1, C.2.1, C.2.2.1, C.2.2.2.1, hwd⟩ (hM H.size) cw ⟨gPc_blind, va_recv C.2.2.2.2.2.1.1 hP hc hq, fun U hU hW => ⟨rfl, by rw [hU], by rw [hU]; exact hP, gEV.call C.2.2.2.2.2.1 hS (gA_le (g_inA C) C.2.2.2.2.2.2.2 hS) hU hW⟩⟩ rfl hn hl.1 rfl (lv_room hst) hdg hf) hS hl C k
theorem J_callS {y : MethodName} {bytes : ByteArray} {maxL n idx : Nat} {ret : Option FieldType} {rm : Room} {As : List Value} {o : Option Value} {μ1 : gM} (hM : gMet l y bytes maxL ret rm D E kd tc ad rh sa As μ o μ1) (hw : wCs y bytes maxL ret n) (hlk : Cond.methodLink own idx y ∈ BIG) (hn : As.length = n) (hrm : rm.cells = 0 ∧ rm.slots = 0 ∧ rm.frames + 1 ≤ R.frames ∧ 8 + (maxL + 11) + rm.locals ≤ R.locals) (hf : cells ≤ R.cells ∧ slots ≤ R.slots) (hst : (st.map fun v => v.category).sum ≤ 8) (hdg : decode cc pc = .ok (.invokestatic idx, 3)) {st1 : List Value} (hs : o.toList ++ st = st1) {pc1 : Nat} (hp : pc + 3 = pc1) (k : J p l e R s m args below meth c cc nL own D E kd tc ad rh sa A H0 cells slots Q μ1 pc1 lv st1) : J p l e R s m args below meth c cc nL own D E kd tc ad rh sa A H0 cells slots Q μ pc lv (As.reverse ++ st) := fun H locs ls C hP hS hl => by
  subst hs
  subst hp
  have hG := gGood hw.1.2.2
  have hwd : ∀ w ∈ BIG, w.before args s = true := C.2.2.2.2.1
  exact J_back (gA_le (g_inA C) C.2.2.2.2.2.2.2 hS) (va_runS (As := As) (rest := st) ⟨C.1, C.2.1, C.2.2.1, C.2.2.2.1, hwd⟩ (hM H.size) ⟨callB_of n hwd hG rfl hrm.1 hrm.2.1 (hwd _ hw.1.2.1) (hwd _ hlk) hw.2 hrm.2.2, hwd _ hw.1.1⟩ ⟨gPc_blind, fun U hU hW => ⟨rfl, by rw [hU], by rw [hU]; exact hP, gEV.call C.2.2.2.2.2.1 hS (gA_le (g_inA C) C.2.2.2.2.2.2.2 hS) hU hW⟩⟩ rfl hn hl.1 rfl (lv_room hst) hdg hf) hS hl C k
/-- a switch: one of its cases; none of them -/
theorem J_swIn {dflt lo hi : Int} {offs : Array Int} {len : Nat} {x v : Int32} {off : Int} {tgt : Nat} (hdg : decode cc pc = .ok (.tableswitch dflt lo hi offs, len)) (hx : x = v) (h1 : ¬ v.toInt < lo ∧ ¬ hi < v.toInt ∧ offs[(v.toInt - lo).toNat]? = some off ∧ (pc : Int) + off = (tgt : Int)) (k : J p l e R s m args below meth c cc nL own D E kd tc ad rh sa A H0 cells slots Q μ tgt lv st) : J p l e R s m args below meth c cc nL own D E kd tc ad rh sa A H0 cells slots Q μ pc lv (.int x :: st) := fun H locs ls C hP hS hl => by
  subst hx; exact lv_tableIn C.1 C.2.1 hdg h1.1 h1.2.1 h1.2.2.1 h1.2.2.2 (k H locs ls C hP hS hl)
theorem J_swOut {dflt lo hi : Int} {offs : Array Int} {len : Nat} {x : Int32} {tgt : Nat} (hdg : decode cc pc = .ok (.tableswitch dflt lo hi offs, len)) (h : x.toInt < lo ∨ hi < x.toInt) (ht : (pc : Int) + dflt = (tgt : Int)) (k : J p l e R s m args below meth c cc nL own D E kd tc ad rh sa A H0 cells slots Q μ tgt lv st) : J p l e R s m args below meth c cc nL own D E kd tc ad rh sa A H0 cells slots Q μ pc lv (.int x :: st) := fun H locs ls C hP hS hl => lv_tableOut C.1 C.2.1 hdg h ht (k H locs ls C hP hS hl)
theorem J_lookup {dflt : Int} {ps : Array (Int × Int)} {len : Nat} {x : Int32} {off : Int} {tgt : Nat} (hdg : decode cc pc = .ok (.lookupswitch dflt ps, len)) (hp : (ps.toList.zip (ps.toList.drop 1)).all (fun (a, next) => a.1 < next.1) = true) (ho : Op.lookupswitch.offset ps.toList dflt x.toInt = off) (ht : (pc : Int) + off = (tgt : Int)) (k : J p l e R s m args below meth c cc nL own D E kd tc ad rh sa A H0 cells slots Q μ tgt lv st) : J p l e R s m args below meth c cc nL own D E kd tc ad rh sa A H0 cells slots Q μ pc lv (.int x :: st) := fun H locs ls C hP hS hl => lv_lookup C.1 C.2.1 hdg hp ho ht (k H locs ls C hP hS hl)

end JR
