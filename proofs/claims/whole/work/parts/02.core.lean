/-! A world of cells named by (family, number): what each holds is read off one memory of Int32s (gM); references are read off it too (rh). J: from every heap that holds the memory, the frame goes on to Q. -/
abbrev gM : Type := Nat → Nat → Nat → Int32
abbrev gRh : Type := (Nat → Int32) → Nat → Nat → Nat → Option (Nat × Nat)
/-- a family: objects (class's number, fields, which are references); arrays of numbers (class, length); arrays of references (class, length) -/
abbrev gKd : Type := (Nat × Nat × List Nat) ⊕ ((Nat × Nat) ⊕ (Nat × Nat))
def w3 (μ : gM) (f i j : Nat) (v : Int32) : gM := fun f' i' j' => if f' = f ∧ i' = i ∧ j' = j then v else μ f' i' j'
theorem w3_row (μ : gM) (f i j : Nat) (v : Int32) : w3 μ f i j v f i = upd (μ f i) j v := by
  funext k; simp [w3, upd]
theorem w3_ne {μ : gM} {f i j : Nat} {v : Int32} {f' i' : Nat} (h : ¬ (f' = f ∧ i' = i)) : w3 μ f i j v f' i' = μ f' i' := by
  funext k
  unfold w3
  rw [if_neg (fun q => h ⟨q.1, q.2.1⟩)]
def g_va (ad : Nat → Nat → Nat) (r : Option (Nat × Nat)) : Value := va_rf (r.map (fun q => ad q.1 q.2))
def g_v (ad : Nat → Nat → Nat) (rh : gRh) (refs : List Nat) (row : Nat → Int32) (f i k : Nat) : Value := if refs.contains k then g_va ad (rh row f i k) else .int (row k)
def g_e (kd : Nat → gKd) (tc : Nat → ClassId) (ad : Nat → Nat → Nat) (rh : gRh) (row : Nat → Int32) (f i : Nat) : va_E := match kd f with
  | .inl q => .inr (q.1, (List.range q.2.1).map (g_v ad rh q.2.2 row f i))
  | .inr (.inl q) => .inl (tc q.1, q.2, .inl row)
  | .inr (.inr q) => .inl (tc q.1, q.2, .inr (.inr (.inr (.inr (fun j => (rh row f i j).map (fun q => ad q.1 q.2))))))
def g_w (E : List (Nat × Nat)) (kd : Nat → gKd) (tc : Nat → ClassId) (ad : Nat → Nat → Nat) (rh : gRh) (μ : gM) : va_W := E.map (fun q => (ad q.1 q.2, g_e kd tc ad rh (μ q.1 q.2) q.1 q.2))
section GW
variable {E : List (Nat × Nat)} {kd : Nat → gKd} {tc : Nat → ClassId} {ad : Nat → Nat → Nat} {rh : gRh} {μ μ' : gM} {f i j : Nat}
theorem g_at (h : (f, i) ∈ E) : ∃ k : Nat, E[k]? = some (f, i) ∧ (g_w E kd tc ad rh μ)[k]? = some (ad f i, g_e kd tc ad rh (μ f i) f i) := by
  obtain ⟨k, hk⟩ := List.getElem?_of_mem h
  exact ⟨k, hk, by simp [g_w, hk]⟩
theorem g_set {A : Nat → Prop} (hD : va_D A (g_w E kd tc ad rh μ)) {k : Nat} (hk : E[k]? = some (f, i)) (ho : ∀ f' i', ¬ (f' = f ∧ i' = i) → μ' f' i' = μ f' i') : (g_w E kd tc ad rh μ).set k (ad f i, g_e kd tc ad rh (μ' f i) f i) = g_w E kd tc ad rh μ' := by
  apply List.ext_getElem?
  intro n
  have hkl : k < (g_w E kd tc ad rh μ).length := by
    have := (List.getElem?_eq_some_iff.mp hk).1
    simpa [g_w] using this
  by_cases hn : k = n
  · subst hn
    rw [List.getElem?_set_self hkl]
    simp [g_w, hk]
  · rw [List.getElem?_set_ne hn]
    cases he : E[n]? with
    | none => simp [g_w, he]
    | some q =>
      have hq : ¬ (q.1 = f ∧ q.2 = i) := by
        intro hh
        refine hn (hD.1 k n (ad f i, g_e kd tc ad rh (μ f i) f i) (ad q.1 q.2, g_e kd tc ad rh (μ q.1 q.2) q.1 q.2) (by simp [g_w, hk]) (by simp [g_w, he]) (by rw [hh.1, hh.2]))
      simp [g_w, he, ho q.1 q.2 hq]
theorem g_fld {ci n : Nat} {refs : List Nat} (hk : kd f = .inl (ci, n, refs)) (row : Nat → Int32) : g_e kd tc ad rh row f i = .inr (ci, (List.range n).map (g_v ad rh refs row f i)) := by
  unfold g_e; rw [hk]
theorem g_arr {t n : Nat} (hk : kd f = .inr (.inl (t, n))) (row : Nat → Int32) : g_e kd tc ad rh row f i = .inl (tc t, n, .inl row) := by
  unfold g_e; rw [hk]
theorem g_ars {t n : Nat} (hk : kd f = .inr (.inr (t, n))) (row : Nat → Int32) : g_e kd tc ad rh row f i = .inl (tc t, n, .inr (.inr (.inr (.inr (fun j => (rh row f i j).map (fun q => ad q.1 q.2)))))) := by
  unfold g_e; rw [hk]
theorem g_rset {α : Type} (F : Nat → α) (n k : Nat) (x : α) : ((List.range n).map F).set k x = (List.range n).map (fun j => if j = k then x else F j) := by
  apply List.ext_getElem?
  intro m
  by_cases hm : k = m
  · subst hm
    by_cases hl : k < n
    · rw [List.getElem?_set_self (by simpa using hl)]
      simp [hl]
    · simp [hl]
  · rw [List.getElem?_set_ne hm]
    simp only [List.getElem?_map]
    cases h : (List.range n)[m]? with
    | none => rfl
    | some q =>
      have : q = m := by
        have := List.getElem?_eq_some_iff.mp h
        obtain ⟨h1, h2⟩ := this
        simpa using h2.symm
      subst this
      simp [Ne.symm hm]
end GW
/-- the writable addresses: the world's, and what is new since sz -/
def gA (E : List (Nat × Nat)) (ad : Nat → Nat → Nat) (sz : Nat) : Nat → Prop := fun q => (∃ f i, (f, i) ∈ E ∧ q = ad f i) ∨ sz ≤ q
abbrev gT (tc : Nat → ClassId) : List (ClassId × FieldType) := [(tc 0, .int), (tc 1, .char), (tc 2, .object RX4), (tc 3, .object RX2)]
/-- what stays fixed in a method's body -/
def Cx (p : Program) (s : State) (m : MethodId) (args : Array Value) (c : Code) (cc : ByteArray) (nL : Nat) (own : String) (D : va_G) (E : List (Nat × Nat)) (kd : Nat → gKd) (tc : Nat → ClassId) (ad : Nat → Nat → Nat) (rh : gRh) (A : Nat → Prop) (H0 : Heap) : Prop :=
  p.tables.exec = Jvm.exec ∧ c.code = cc ∧ c.maxLocals = nL ∧ s.vm.findClass own = some m.cls ∧ (∀ w ∈ wsL_law, w.before args s = true) ∧ va_K D vwCl (gT tc) s ∧ (∀ μ, va_D A (g_w E kd tc ad rh μ)) ∧ (∀ q, H0.size ≤ q → A q)
def J (p : Program) (l : Launch) (e : Env) (R : Room) (s : State) (m : MethodId) (args : Array Value) (below : List Frame) (meth : Method) (c : Code) (cc : ByteArray) (nL : Nat) (own : String) (D : va_G) (E : List (Nat × Nat)) (kd : Nat → gKd) (tc : Nat → ClassId) (ad : Nat → Nat → Nat) (rh : gRh) (A : Nat → Prop) (H0 : Heap) (cells slots : Nat) (Q : State → Prop) (μ : gM) (pc : Nat) (lv : List (Nat × Value)) (st : List Value) : Prop :=
  ∀ (H : Heap) (locs : List Loc) (ls : Array Slot), Cx p s m args c cc nL own D E kd tc ad rh A H0 → va_P D vwCl (g_w E kd tc ad rh μ) H → va_S A H0 H locs → lv_has ls nL lv → W p l e R s m args below meth c H locs cells slots Q (F0 m pc ls st)
section JR
variable {p : Program} {l : Launch} {e : Env} {R : Room} {s : State} {m : MethodId} {args : Array Value} {below : List Frame} {meth : Method} {c : Code} {cc : ByteArray} {nL : Nat} {own : String} {D : va_G} {E : List (Nat × Nat)} {kd : Nat → gKd} {tc : Nat → ClassId} {ad : Nat → Nat → Nat} {rh : gRh} {A : Nat → Prop} {H0 : Heap} {cells slots : Nat} {Q : State → Prop} {μ : gM} {pc : Nat} {lv : List (Nat × Value)} {st : List Value}

theorem J_iconst {n : Int} {v : Int32} (hdg : decode cc pc = .ok (.iconst n, 1)) (hv : Int32.ofInt n = v) (k : J p l e R s m args below meth c cc nL own D E kd tc ad rh A H0 cells slots Q μ (pc + 1) lv (.int v :: st)) : J p l e R s m args below meth c cc nL own D E kd tc ad rh A H0 cells slots Q μ pc lv (st) := fun H locs ls C hP hS hl => lv_iconst C.1 C.2.1 hdg hv (k H locs ls C hP hS hl)
theorem J_bipush {n : Int} {v : Int32} (hdg : decode cc pc = .ok (.bipush n, 2)) (hv : (Int8.ofInt n).toInt32 = v) (k : J p l e R s m args below meth c cc nL own D E kd tc ad rh A H0 cells slots Q μ (pc + 2) lv (.int v :: st)) : J p l e R s m args below meth c cc nL own D E kd tc ad rh A H0 cells slots Q μ pc lv (st) := fun H locs ls C hP hS hl => lv_bipush C.1 C.2.1 hdg hv (k H locs ls C hP hS hl)
theorem J_sipush {n : Int} {v : Int32} (hdg : decode cc pc = .ok (.sipush n, 3)) (hv : (Int16.ofInt n).toInt32 = v) (k : J p l e R s m args below meth c cc nL own D E kd tc ad rh A H0 cells slots Q μ (pc + 3) lv (.int v :: st)) : J p l e R s m args below meth c cc nL own D E kd tc ad rh A H0 cells slots Q μ pc lv (st) := fun H locs ls C hP hS hl => lv_sipush C.1 C.2.1 hdg hv (k H locs ls C hP hS hl)
theorem J_ldc {n : Nat} {v : Int32} (hw : Cond.constant own n v ∈ wsL_law) (hdg : decode cc pc = .ok (.ldc n, 2)) (k : J p l e R s m args below meth c cc nL own D E kd tc ad rh A H0 cells slots Q μ (pc + 2) lv (.int v :: st)) : J p l e R s m args below meth c cc nL own D E kd tc ad rh A H0 cells slots Q μ pc lv (st) := fun H locs ls C hP hS hl => lv_ldc C.1 C.2.1 C.2.2.2.1 (C.2.2.2.2.1 _ hw) hdg (k H locs ls C hP hS hl)
theorem J_iload_n {k0 : Fin 4} {i q : Nat} {x : Int32} (hdg : decode cc pc = .ok (.iload_n k0, 1)) (hi : (k0 : Nat) = i) (hq : lv[q]? = some (i, .int x)) (k : J p l e R s m args below meth c cc nL own D E kd tc ad rh A H0 cells slots Q μ (pc + 1) lv (.int x :: st)) : J p l e R s m args below meth c cc nL own D E kd tc ad rh A H0 cells slots Q μ pc lv (st) := fun H locs ls C hP hS hl => lv_iload_n C.1 C.2.1 hdg hi (lv_at hl q hq) (k H locs ls C hP hS hl)
theorem J_iload {i q : Nat} {x : Int32} (hdg : decode cc pc = .ok (.iload i, 2)) (hq : lv[q]? = some (i, .int x)) (k : J p l e R s m args below meth c cc nL own D E kd tc ad rh A H0 cells slots Q μ (pc + 2) lv (.int x :: st)) : J p l e R s m args below meth c cc nL own D E kd tc ad rh A H0 cells slots Q μ pc lv (st) := fun H locs ls C hP hS hl => lv_iload C.1 C.2.1 hdg (lv_at hl q hq) (k H locs ls C hP hS hl)
theorem J_aload_n {k0 : Fin 4} {i q : Nat} {x : Nat} (hdg : decode cc pc = .ok (.aload_n k0, 1)) (hi : (k0 : Nat) = i) (hq : lv[q]? = some (i, .ref x)) (k : J p l e R s m args below meth c cc nL own D E kd tc ad rh A H0 cells slots Q μ (pc + 1) lv (.ref x :: st)) : J p l e R s m args below meth c cc nL own D E kd tc ad rh A H0 cells slots Q μ pc lv (st) := fun H locs ls C hP hS hl => lv_aload_n C.1 C.2.1 hdg hi (lv_at hl q hq) (k H locs ls C hP hS hl)
theorem J_aload {i q : Nat} {x : Nat} (hdg : decode cc pc = .ok (.aload i, 2)) (hq : lv[q]? = some (i, .ref x)) (k : J p l e R s m args below meth c cc nL own D E kd tc ad rh A H0 cells slots Q μ (pc + 2) lv (.ref x :: st)) : J p l e R s m args below meth c cc nL own D E kd tc ad rh A H0 cells slots Q μ pc lv (st) := fun H locs ls C hP hS hl => lv_aload C.1 C.2.1 hdg (lv_at hl q hq) (k H locs ls C hP hS hl)
theorem J_istore_n {k0 : Fin 4} {i : Nat} {x : Int32} {lv1 : List (Nat × Value)} (hdg : decode cc pc = .ok (.istore_n k0, 1)) (hi : (k0 : Nat) = i) (hn : i < nL) (hf : (i, Value.int x) :: lv.filter (fun q => !(q.1 == i) && !(q.1 + 1 == i && q.2.category == 2)) = lv1) (k : J p l e R s m args below meth c cc nL own D E kd tc ad rh A H0 cells slots Q μ (pc + 1) lv1 (st)) : J p l e R s m args below meth c cc nL own D E kd tc ad rh A H0 cells slots Q μ pc lv (.int x :: st) := fun H locs ls C hP hS hl => lv_istore_n C.1 C.2.1 hdg hi hl hn hf (fun ls1 h1 => k H locs ls1 C hP hS h1)
theorem J_istore {i : Nat} {x : Int32} {lv1 : List (Nat × Value)} (hdg : decode cc pc = .ok (.istore i, 2)) (hn : i < nL) (hf : (i, Value.int x) :: lv.filter (fun q => !(q.1 == i) && !(q.1 + 1 == i && q.2.category == 2)) = lv1) (k : J p l e R s m args below meth c cc nL own D E kd tc ad rh A H0 cells slots Q μ (pc + 2) lv1 (st)) : J p l e R s m args below meth c cc nL own D E kd tc ad rh A H0 cells slots Q μ pc lv (.int x :: st) := fun H locs ls C hP hS hl => lv_istore C.1 C.2.1 hdg hl hn hf (fun ls1 h1 => k H locs ls1 C hP hS h1)
theorem J_astore_n {k0 : Fin 4} {i : Nat} {x : Nat} {lv1 : List (Nat × Value)} (hdg : decode cc pc = .ok (.astore_n k0, 1)) (hi : (k0 : Nat) = i) (hn : i < nL) (hf : (i, Value.ref x) :: lv.filter (fun q => !(q.1 == i) && !(q.1 + 1 == i && q.2.category == 2)) = lv1) (k : J p l e R s m args below meth c cc nL own D E kd tc ad rh A H0 cells slots Q μ (pc + 1) lv1 (st)) : J p l e R s m args below meth c cc nL own D E kd tc ad rh A H0 cells slots Q μ pc lv (.ref x :: st) := fun H locs ls C hP hS hl => lv_astore_n C.1 C.2.1 hdg hi hl hn hf (fun ls1 h1 => k H locs ls1 C hP hS h1)
theorem J_astore {i : Nat} {x : Nat} {lv1 : List (Nat × Value)} (hdg : decode cc pc = .ok (.astore i, 2)) (hn : i < nL) (hf : (i, Value.ref x) :: lv.filter (fun q => !(q.1 == i) && !(q.1 + 1 == i && q.2.category == 2)) = lv1) (k : J p l e R s m args below meth c cc nL own D E kd tc ad rh A H0 cells slots Q μ (pc + 2) lv1 (st)) : J p l e R s m args below meth c cc nL own D E kd tc ad rh A H0 cells slots Q μ pc lv (.ref x :: st) := fun H locs ls C hP hS hl => lv_astore C.1 C.2.1 hdg hl hn hf (fun ls1 h1 => k H locs ls1 C hP hS h1)
theorem J_iinc {i q : Nat} {n : Int} {x v : Int32} {lv1 : List (Nat × Value)} (hdg : decode cc pc = .ok (.iinc i n, 3)) (hq : lv[q]? = some (i, .int x)) (hv : x + Int32.ofInt n = v) (hn : i < nL) (hf : (i, Value.int v) :: lv.filter (fun q => !(q.1 == i) && !(q.1 + 1 == i && q.2.category == 2)) = lv1) (k : J p l e R s m args below meth c cc nL own D E kd tc ad rh A H0 cells slots Q μ (pc + 3) lv1 (st)) : J p l e R s m args below meth c cc nL own D E kd tc ad rh A H0 cells slots Q μ pc lv (st) := fun H locs ls C hP hS hl => lv_iinc C.1 C.2.1 hdg hl hq hv hn hf (fun ls1 h1 => k H locs ls1 C hP hS h1)
theorem J_iadd {x y : Int32} (hdg : decode cc pc = .ok (.iadd, 1)) (k : J p l e R s m args below meth c cc nL own D E kd tc ad rh A H0 cells slots Q μ (pc + 1) lv (.int (x + y) :: st)) : J p l e R s m args below meth c cc nL own D E kd tc ad rh A H0 cells slots Q μ pc lv (.int y :: .int x :: st) := fun H locs ls C hP hS hl => lv_iadd C.1 C.2.1 hdg (k H locs ls C hP hS hl)
theorem J_isub {x y : Int32} (hdg : decode cc pc = .ok (.isub, 1)) (k : J p l e R s m args below meth c cc nL own D E kd tc ad rh A H0 cells slots Q μ (pc + 1) lv (.int (x - y) :: st)) : J p l e R s m args below meth c cc nL own D E kd tc ad rh A H0 cells slots Q μ pc lv (.int y :: .int x :: st) := fun H locs ls C hP hS hl => lv_isub C.1 C.2.1 hdg (k H locs ls C hP hS hl)
theorem J_imul {x y : Int32} (hdg : decode cc pc = .ok (.imul, 1)) (k : J p l e R s m args below meth c cc nL own D E kd tc ad rh A H0 cells slots Q μ (pc + 1) lv (.int (x * y) :: st)) : J p l e R s m args below meth c cc nL own D E kd tc ad rh A H0 cells slots Q μ pc lv (.int y :: .int x :: st) := fun H locs ls C hP hS hl => lv_imul C.1 C.2.1 hdg (k H locs ls C hP hS hl)
theorem J_iand {x y : Int32} (hdg : decode cc pc = .ok (.iand, 1)) (k : J p l e R s m args below meth c cc nL own D E kd tc ad rh A H0 cells slots Q μ (pc + 1) lv (.int (x &&& y) :: st)) : J p l e R s m args below meth c cc nL own D E kd tc ad rh A H0 cells slots Q μ pc lv (.int y :: .int x :: st) := fun H locs ls C hP hS hl => lv_iand C.1 C.2.1 hdg (k H locs ls C hP hS hl)
theorem J_ior {x y : Int32} (hdg : decode cc pc = .ok (.ior, 1)) (k : J p l e R s m args below meth c cc nL own D E kd tc ad rh A H0 cells slots Q μ (pc + 1) lv (.int (x ||| y) :: st)) : J p l e R s m args below meth c cc nL own D E kd tc ad rh A H0 cells slots Q μ pc lv (.int y :: .int x :: st) := fun H locs ls C hP hS hl => lv_ior C.1 C.2.1 hdg (k H locs ls C hP hS hl)
theorem J_ixor {x y : Int32} (hdg : decode cc pc = .ok (.ixor, 1)) (k : J p l e R s m args below meth c cc nL own D E kd tc ad rh A H0 cells slots Q μ (pc + 1) lv (.int (x ^^^ y) :: st)) : J p l e R s m args below meth c cc nL own D E kd tc ad rh A H0 cells slots Q μ pc lv (.int y :: .int x :: st) := fun H locs ls C hP hS hl => lv_ixor C.1 C.2.1 hdg (k H locs ls C hP hS hl)
theorem J_ishl {x y : Int32} (hdg : decode cc pc = .ok (.ishl, 1)) (k : J p l e R s m args below meth c cc nL own D E kd tc ad rh A H0 cells slots Q μ (pc + 1) lv (.int (x <<< (y &&& 31)) :: st)) : J p l e R s m args below meth c cc nL own D E kd tc ad rh A H0 cells slots Q μ pc lv (.int y :: .int x :: st) := fun H locs ls C hP hS hl => lv_ishl C.1 C.2.1 hdg (k H locs ls C hP hS hl)
theorem J_ishr {x y : Int32} (hdg : decode cc pc = .ok (.ishr, 1)) (k : J p l e R s m args below meth c cc nL own D E kd tc ad rh A H0 cells slots Q μ (pc + 1) lv (.int (x >>> (y &&& 31)) :: st)) : J p l e R s m args below meth c cc nL own D E kd tc ad rh A H0 cells slots Q μ pc lv (.int y :: .int x :: st) := fun H locs ls C hP hS hl => lv_ishr C.1 C.2.1 hdg (k H locs ls C hP hS hl)
theorem J_idiv {x y : Int32} (hdg : decode cc pc = .ok (.idiv, 1)) (hne : ¬ y = 0) (k : J p l e R s m args below meth c cc nL own D E kd tc ad rh A H0 cells slots Q μ (pc + 1) lv (.int (x / y) :: st)) : J p l e R s m args below meth c cc nL own D E kd tc ad rh A H0 cells slots Q μ pc lv (.int y :: .int x :: st) := fun H locs ls C hP hS hl => lv_idiv C.1 C.2.1 hdg hne (k H locs ls C hP hS hl)
theorem J_irem {x y : Int32} (hdg : decode cc pc = .ok (.irem, 1)) (hne : ¬ y = 0) (k : J p l e R s m args below meth c cc nL own D E kd tc ad rh A H0 cells slots Q μ (pc + 1) lv (.int (x - x / y * y) :: st)) : J p l e R s m args below meth c cc nL own D E kd tc ad rh A H0 cells slots Q μ pc lv (.int y :: .int x :: st) := fun H locs ls C hP hS hl => lv_irem C.1 C.2.1 hdg hne (k H locs ls C hP hS hl)
def ushr (x y : Int32) : Int32 := (x.toUInt32 >>> (y.toUInt32 &&& Int32.toUInt32 31)).toInt32
theorem J_iushr {x y : Int32} (hdg : decode cc pc = .ok (.iushr, 1)) (k : J p l e R s m args below meth c cc nL own D E kd tc ad rh A H0 cells slots Q μ (pc + 1) lv (.int (ushr x y) :: st)) : J p l e R s m args below meth c cc nL own D E kd tc ad rh A H0 cells slots Q μ pc lv (.int y :: .int x :: st) := fun H locs ls C hP hS hl => lv_iushr C.1 C.2.1 hdg rfl (k H locs ls C hP hS hl)
theorem J_ineg {x : Int32} (hdg : decode cc pc = .ok (.ineg, 1)) (k : J p l e R s m args below meth c cc nL own D E kd tc ad rh A H0 cells slots Q μ (pc + 1) lv (.int (-x) :: st)) : J p l e R s m args below meth c cc nL own D E kd tc ad rh A H0 cells slots Q μ pc lv (.int x :: st) := fun H locs ls C hP hS hl => lv_ineg C.1 C.2.1 hdg (k H locs ls C hP hS hl)
def i2c (x : Int32) : Int32 := (x.toUInt32 % 65536).toInt32
theorem J_i2c {x : Int32} (hdg : decode cc pc = .ok (.i2c, 1)) (k : J p l e R s m args below meth c cc nL own D E kd tc ad rh A H0 cells slots Q μ (pc + 1) lv (.int (i2c x) :: st)) : J p l e R s m args below meth c cc nL own D E kd tc ad rh A H0 cells slots Q μ pc lv (.int x :: st) := fun H locs ls C hP hS hl => lv_i2c C.1 C.2.1 hdg rfl (k H locs ls C hP hS hl)
theorem J_dup {v : Value} (hdg : decode cc pc = .ok (.dup, 1)) (hc : v.category = 1) (k : J p l e R s m args below meth c cc nL own D E kd tc ad rh A H0 cells slots Q μ (pc + 1) lv (v :: v :: st)) : J p l e R s m args below meth c cc nL own D E kd tc ad rh A H0 cells slots Q μ pc lv (v :: st) := fun H locs ls C hP hS hl => lv_dup C.1 C.2.1 hdg hc (k H locs ls C hP hS hl)
theorem J_pop {v : Value} (hdg : decode cc pc = .ok (.pop, 1)) (hc : v.category = 1) (k : J p l e R s m args below meth c cc nL own D E kd tc ad rh A H0 cells slots Q μ (pc + 1) lv (st)) : J p l e R s m args below meth c cc nL own D E kd tc ad rh A H0 cells slots Q μ pc lv (v :: st) := fun H locs ls C hP hS hl => lv_pop C.1 C.2.1 hdg hc (k H locs ls C hP hS hl)
theorem J_dup_x1 {v w : Value} (hdg : decode cc pc = .ok (.dup_x1, 1)) (hc : v.category = 1) (hd : w.category = 1) (k : J p l e R s m args below meth c cc nL own D E kd tc ad rh A H0 cells slots Q μ (pc + 1) lv (v :: w :: v :: st)) : J p l e R s m args below meth c cc nL own D E kd tc ad rh A H0 cells slots Q μ pc lv (v :: w :: st) := fun H locs ls C hP hS hl => lv_dup_x1 C.1 C.2.1 hdg hc hd (k H locs ls C hP hS hl)
theorem J_dup2 {v w : Value} (hdg : decode cc pc = .ok (.dup2, 1)) (hc : v.category = 1) (hd : w.category = 1) (k : J p l e R s m args below meth c cc nL own D E kd tc ad rh A H0 cells slots Q μ (pc + 1) lv (v :: w :: v :: w :: st)) : J p l e R s m args below meth c cc nL own D E kd tc ad rh A H0 cells slots Q μ pc lv (v :: w :: st) := fun H locs ls C hP hS hl => lv_dup2_11 C.1 C.2.1 hdg hc hd (k H locs ls C hP hS hl)
theorem J_goto {off : Int} {tgt : Nat} (hdg : decode cc pc = .ok (.goto off, 3)) (ht : (pc : Int) + off = (tgt : Int)) (k : J p l e R s m args below meth c cc nL own D E kd tc ad rh A H0 cells slots Q μ (tgt) lv (st)) : J p l e R s m args below meth c cc nL own D E kd tc ad rh A H0 cells slots Q μ pc lv (st) := fun H locs ls C hP hS hl => lv_goto C.1 C.2.1 hdg ht (k H locs ls C hP hS hl)
theorem J_icmp_eq {x y : Int32} {off : Int} {tgt : Nat} (hdg : decode cc pc = .ok (.if_icmp .eq off, 3)) (ht : (pc : Int) + off = (tgt : Int)) (kt : x = y → J p l e R s m args below meth c cc nL own D E kd tc ad rh A H0 cells slots Q μ tgt lv st) (kf : ¬ x = y → J p l e R s m args below meth c cc nL own D E kd tc ad rh A H0 cells slots Q μ (pc + 3) lv st) : J p l e R s m args below meth c cc nL own D E kd tc ad rh A H0 cells slots Q μ pc lv (.int y :: .int x :: st) := fun H locs ls C hP hS hl => lv_icmp_eq C.1 C.2.1 hdg ht (fun q => kt q H locs ls C hP hS hl) (fun q => kf q H locs ls C hP hS hl)
theorem J_icmp_ne {x y : Int32} {off : Int} {tgt : Nat} (hdg : decode cc pc = .ok (.if_icmp .ne off, 3)) (ht : (pc : Int) + off = (tgt : Int)) (kt : ¬ x = y → J p l e R s m args below meth c cc nL own D E kd tc ad rh A H0 cells slots Q μ tgt lv st) (kf : x = y → J p l e R s m args below meth c cc nL own D E kd tc ad rh A H0 cells slots Q μ (pc + 3) lv st) : J p l e R s m args below meth c cc nL own D E kd tc ad rh A H0 cells slots Q μ pc lv (.int y :: .int x :: st) := fun H locs ls C hP hS hl => lv_icmp_ne C.1 C.2.1 hdg ht (fun q => kt q H locs ls C hP hS hl) (fun q => kf q H locs ls C hP hS hl)
theorem J_icmp_lt {x y : Int32} {off : Int} {tgt : Nat} (hdg : decode cc pc = .ok (.if_icmp .lt off, 3)) (ht : (pc : Int) + off = (tgt : Int)) (kt : x < y → J p l e R s m args below meth c cc nL own D E kd tc ad rh A H0 cells slots Q μ tgt lv st) (kf : ¬ x < y → J p l e R s m args below meth c cc nL own D E kd tc ad rh A H0 cells slots Q μ (pc + 3) lv st) : J p l e R s m args below meth c cc nL own D E kd tc ad rh A H0 cells slots Q μ pc lv (.int y :: .int x :: st) := fun H locs ls C hP hS hl => lv_icmp_lt C.1 C.2.1 hdg ht (fun q => kt q H locs ls C hP hS hl) (fun q => kf q H locs ls C hP hS hl)
theorem J_icmp_ge {x y : Int32} {off : Int} {tgt : Nat} (hdg : decode cc pc = .ok (.if_icmp .ge off, 3)) (ht : (pc : Int) + off = (tgt : Int)) (kt : y ≤ x → J p l e R s m args below meth c cc nL own D E kd tc ad rh A H0 cells slots Q μ tgt lv st) (kf : ¬ y ≤ x → J p l e R s m args below meth c cc nL own D E kd tc ad rh A H0 cells slots Q μ (pc + 3) lv st) : J p l e R s m args below meth c cc nL own D E kd tc ad rh A H0 cells slots Q μ pc lv (.int y :: .int x :: st) := fun H locs ls C hP hS hl => lv_icmp_ge C.1 C.2.1 hdg ht (fun q => kt q H locs ls C hP hS hl) (fun q => kf q H locs ls C hP hS hl)
theorem J_icmp_gt {x y : Int32} {off : Int} {tgt : Nat} (hdg : decode cc pc = .ok (.if_icmp .gt off, 3)) (ht : (pc : Int) + off = (tgt : Int)) (kt : y < x → J p l e R s m args below meth c cc nL own D E kd tc ad rh A H0 cells slots Q μ tgt lv st) (kf : ¬ y < x → J p l e R s m args below meth c cc nL own D E kd tc ad rh A H0 cells slots Q μ (pc + 3) lv st) : J p l e R s m args below meth c cc nL own D E kd tc ad rh A H0 cells slots Q μ pc lv (.int y :: .int x :: st) := fun H locs ls C hP hS hl => lv_icmp_gt C.1 C.2.1 hdg ht (fun q => kt q H locs ls C hP hS hl) (fun q => kf q H locs ls C hP hS hl)
theorem J_icmp_le {x y : Int32} {off : Int} {tgt : Nat} (hdg : decode cc pc = .ok (.if_icmp .le off, 3)) (ht : (pc : Int) + off = (tgt : Int)) (kt : x ≤ y → J p l e R s m args below meth c cc nL own D E kd tc ad rh A H0 cells slots Q μ tgt lv st) (kf : ¬ x ≤ y → J p l e R s m args below meth c cc nL own D E kd tc ad rh A H0 cells slots Q μ (pc + 3) lv st) : J p l e R s m args below meth c cc nL own D E kd tc ad rh A H0 cells slots Q μ pc lv (.int y :: .int x :: st) := fun H locs ls C hP hS hl => lv_icmp_le C.1 C.2.1 hdg ht (fun q => kt q H locs ls C hP hS hl) (fun q => kf q H locs ls C hP hS hl)
theorem J_if_eq {x : Int32} {off : Int} {tgt : Nat} (hdg : decode cc pc = .ok (.ifCond .eq off, 3)) (ht : (pc : Int) + off = (tgt : Int)) (kt : x = 0 → J p l e R s m args below meth c cc nL own D E kd tc ad rh A H0 cells slots Q μ tgt lv st) (kf : ¬ x = 0 → J p l e R s m args below meth c cc nL own D E kd tc ad rh A H0 cells slots Q μ (pc + 3) lv st) : J p l e R s m args below meth c cc nL own D E kd tc ad rh A H0 cells slots Q μ pc lv (.int x :: st) := fun H locs ls C hP hS hl => lv_if_eq C.1 C.2.1 hdg ht (fun q => kt q H locs ls C hP hS hl) (fun q => kf q H locs ls C hP hS hl)
theorem J_if_ne {x : Int32} {off : Int} {tgt : Nat} (hdg : decode cc pc = .ok (.ifCond .ne off, 3)) (ht : (pc : Int) + off = (tgt : Int)) (kt : ¬ x = 0 → J p l e R s m args below meth c cc nL own D E kd tc ad rh A H0 cells slots Q μ tgt lv st) (kf : x = 0 → J p l e R s m args below meth c cc nL own D E kd tc ad rh A H0 cells slots Q μ (pc + 3) lv st) : J p l e R s m args below meth c cc nL own D E kd tc ad rh A H0 cells slots Q μ pc lv (.int x :: st) := fun H locs ls C hP hS hl => lv_if_ne C.1 C.2.1 hdg ht (fun q => kt q H locs ls C hP hS hl) (fun q => kf q H locs ls C hP hS hl)
theorem J_if_lt {x : Int32} {off : Int} {tgt : Nat} (hdg : decode cc pc = .ok (.ifCond .lt off, 3)) (ht : (pc : Int) + off = (tgt : Int)) (kt : x < 0 → J p l e R s m args below meth c cc nL own D E kd tc ad rh A H0 cells slots Q μ tgt lv st) (kf : ¬ x < 0 → J p l e R s m args below meth c cc nL own D E kd tc ad rh A H0 cells slots Q μ (pc + 3) lv st) : J p l e R s m args below meth c cc nL own D E kd tc ad rh A H0 cells slots Q μ pc lv (.int x :: st) := fun H locs ls C hP hS hl => lv_if_lt C.1 C.2.1 hdg ht (fun q => kt q H locs ls C hP hS hl) (fun q => kf q H locs ls C hP hS hl)
theorem J_if_ge {x : Int32} {off : Int} {tgt : Nat} (hdg : decode cc pc = .ok (.ifCond .ge off, 3)) (ht : (pc : Int) + off = (tgt : Int)) (kt : 0 ≤ x → J p l e R s m args below meth c cc nL own D E kd tc ad rh A H0 cells slots Q μ tgt lv st) (kf : ¬ 0 ≤ x → J p l e R s m args below meth c cc nL own D E kd tc ad rh A H0 cells slots Q μ (pc + 3) lv st) : J p l e R s m args below meth c cc nL own D E kd tc ad rh A H0 cells slots Q μ pc lv (.int x :: st) := fun H locs ls C hP hS hl => lv_if_ge C.1 C.2.1 hdg ht (fun q => kt q H locs ls C hP hS hl) (fun q => kf q H locs ls C hP hS hl)
theorem J_if_gt {x : Int32} {off : Int} {tgt : Nat} (hdg : decode cc pc = .ok (.ifCond .gt off, 3)) (ht : (pc : Int) + off = (tgt : Int)) (kt : 0 < x → J p l e R s m args below meth c cc nL own D E kd tc ad rh A H0 cells slots Q μ tgt lv st) (kf : ¬ 0 < x → J p l e R s m args below meth c cc nL own D E kd tc ad rh A H0 cells slots Q μ (pc + 3) lv st) : J p l e R s m args below meth c cc nL own D E kd tc ad rh A H0 cells slots Q μ pc lv (.int x :: st) := fun H locs ls C hP hS hl => lv_if_gt C.1 C.2.1 hdg ht (fun q => kt q H locs ls C hP hS hl) (fun q => kf q H locs ls C hP hS hl)
theorem J_if_le {x : Int32} {off : Int} {tgt : Nat} (hdg : decode cc pc = .ok (.ifCond .le off, 3)) (ht : (pc : Int) + off = (tgt : Int)) (kt : x ≤ 0 → J p l e R s m args below meth c cc nL own D E kd tc ad rh A H0 cells slots Q μ tgt lv st) (kf : ¬ x ≤ 0 → J p l e R s m args below meth c cc nL own D E kd tc ad rh A H0 cells slots Q μ (pc + 3) lv st) : J p l e R s m args below meth c cc nL own D E kd tc ad rh A H0 cells slots Q μ pc lv (.int x :: st) := fun H locs ls C hP hS hl => lv_if_le C.1 C.2.1 hdg ht (fun q => kt q H locs ls C hP hS hl) (fun q => kf q H locs ls C hP hS hl)
/-- the value on top gets a name -/
theorem J_top {x : Int32} (k : ∀ y : Int32, y = x → J p l e R s m args below meth c cc nL own D E kd tc ad rh A H0 cells slots Q μ pc lv (.int y :: st)) : J p l e R s m args below meth c cc nL own D E kd tc ad rh A H0 cells slots Q μ pc lv (.int x :: st) := k x rfl
/-- fewer listed locals, in any order -/
theorem J_sub (ks : List Nat) {lv1 : List (Nat × Value)} (h : lv_pick lv ks = lv1) (k : J p l e R s m args below meth c cc nL own D E kd tc ad rh A H0 cells slots Q μ pc lv1 st) : J p l e R s m args below meth c cc nL own D E kd tc ad rh A H0 cells slots Q μ pc lv st := fun H locs ls C hP hS hl => k H locs ls C hP hS (lv_sub hl ks h)

theorem J_getI {f i k ci n idx : Nat} {refs : List Nat} {Cn ref : String} {T : u_T} (hE : (f, i) ∈ E) (hk : kd f = .inl (ci, n, refs)) (hc : vwCl[ci]? = some (Cn, T, n)) (hin : ∀ w ∈ u_ws Cn T n, w ∈ wsL_law) (k0 : Nat) (hlt : k0 < n) (hr : refs.contains k0 = false) (hw : Cond.fieldLink own idx ref (T k0).2.1 (T k0).2.2.1 ∈ wsL_law) (href : ref = (T k0).1) (hdg : decode cc pc = .ok (.getfield idx, 3)) (k : J p l e R s m args below meth c cc nL own D E kd tc ad rh A H0 cells slots Q μ (pc + 3) lv (.int (μ f i k0) :: st)) : J p l e R s m args below meth c cc nL own D E kd tc ad rh A H0 cells slots Q μ pc lv (.ref (ad f i) :: st) := fun H locs ls C hP hS hl => by
  obtain ⟨q0, -, hq⟩ := g_at (kd := kd) (tc := tc) (ad := ad) (rh := rh) (μ := μ) hE
  rw [g_fld hk] at hq
  exact va_get C.1 C.2.1 C.2.2.2.2.1 hin C.2.2.2.1 C.2.2.2.2.2.1 hP q0 hq hc k0 hlt (C.2.2.2.2.1 _ hw) (fun x hx => by rw [href]; exact hx) (v := .int (μ f i k0)) (by simp [hlt, g_v, hr]; simpa using hr) hdg (k H locs ls C hP hS hl)
theorem J_getR {f i ci n idx f' i' : Nat} {refs : List Nat} {Cn ref : String} {T : u_T} (hE : (f, i) ∈ E) (hk : kd f = .inl (ci, n, refs)) (hc : vwCl[ci]? = some (Cn, T, n)) (hin : ∀ w ∈ u_ws Cn T n, w ∈ wsL_law) (k0 : Nat) (hlt : k0 < n) (hr : refs.contains k0 = true) (hrh : rh (μ f i) f i k0 = some (f', i')) (hw : Cond.fieldLink own idx ref (T k0).2.1 (T k0).2.2.1 ∈ wsL_law) (href : ref = (T k0).1) (hdg : decode cc pc = .ok (.getfield idx, 3)) (k : J p l e R s m args below meth c cc nL own D E kd tc ad rh A H0 cells slots Q μ (pc + 3) lv (.ref (ad f' i') :: st)) : J p l e R s m args below meth c cc nL own D E kd tc ad rh A H0 cells slots Q μ pc lv (.ref (ad f i) :: st) := fun H locs ls C hP hS hl => by
  obtain ⟨q0, -, hq⟩ := g_at (kd := kd) (tc := tc) (ad := ad) (rh := rh) (μ := μ) hE
  rw [g_fld hk] at hq
  exact va_get C.1 C.2.1 C.2.2.2.2.1 hin C.2.2.2.1 C.2.2.2.2.2.1 hP q0 hq hc k0 hlt (C.2.2.2.2.1 _ hw) (fun x hx => by rw [href]; exact hx) (v := .ref (ad f' i')) (by rw [List.getElem?_map, List.getElem?_range hlt]; simp only [Option.map_some, g_v, hr, if_true, hrh]; rfl) hdg (k H locs ls C hP hS hl)
theorem J_putI {f i ci n idx : Nat} {refs : List Nat} {Cn ref : String} {T : u_T} (hE : (f, i) ∈ E) (hk : kd f = .inl (ci, n, refs)) (hc : vwCl[ci]? = some (Cn, T, n)) (hin : ∀ w ∈ u_ws Cn T n, w ∈ wsL_law) (ty0 : Nat → FieldType) (hty : ∀ k, k < n → parseFieldDescriptor (T k).2.2.1 = some (ty0 k)) (hnm : ∀ a, a < n → ∀ b, b < n → a ≠ b → (T a).2.1 ≠ (T b).2.1) (k0 : Nat) (hlt : k0 < n) (hr : refs.contains k0 = false) (hrl : ∀ (row : Nat → Int32) (j : Nat) (v : Int32), refs.contains j = true → rh (upd row k0 v) f i j = rh row f i j) (hw : Cond.fieldLink own idx ref (T k0).2.1 (T k0).2.2.1 ∈ wsL_law) (href : ref = (T k0).1) (hfin : (T k0).2.2.2 = false) {v : Int32} (hn : narrow (ty0 k0) (.int v) = .int v) (hfit : fits (ty0 k0) (.int v) = true) (hdg : decode cc pc = .ok (.putfield idx, 3)) (k : J p l e R s m args below meth c cc nL own D E kd tc ad rh A H0 cells slots Q (w3 μ f i k0 v) (pc + 3) lv st) : J p l e R s m args below meth c cc nL own D E kd tc ad rh A H0 cells slots Q μ pc lv (.int v :: .ref (ad f i) :: st) := fun H locs ls C hP hS hl => by
  obtain ⟨q0, hE0, hq⟩ := g_at (kd := kd) (tc := tc) (ad := ad) (rh := rh) (μ := μ) hE
  have hq' := hq
  rw [g_fld hk] at hq'
  refine va_put C.1 C.2.1 C.2.2.2.2.1 hin ty0 hty hnm C.2.2.2.1 C.2.2.2.2.2.1 hP (C.2.2.2.2.2.2.1 μ) hS q0 hq' hc k0 hlt (C.2.2.2.2.1 _ hw) (fun x hx => by rw [href]; exact hx) hfin (hty k0 hlt) hn hfit (by simpa using hlt) hdg (fun H1 locs1 h1 h2 h3 => ?_)
  refine k H1 locs1 ls C ?_ h3 hl
  have e : (Sum.inr (ci, ((List.range n).map (g_v ad rh refs (μ f i) f i)).set k0 (.int v)) : va_E) = g_e kd tc ad rh (w3 μ f i k0 v f i) f i := by
    rw [g_fld hk, g_rset, w3_row]
    show (Sum.inr _ : va_E) = _
    congr 2
    apply List.map_congr_left
    intro j hj
    by_cases hjk : j = k0
    · subst hjk
      simp only [if_true, g_v, hr, Bool.false_eq_true, if_false, upd]
    · rw [if_neg hjk]
      unfold g_v
      by_cases hrj : refs.contains j = true
      · rw [if_pos hrj, if_pos hrj, hrl _ _ _ hrj]
      · rw [if_neg hrj, if_neg hrj]
        simp [upd, hjk]
  have e2 := g_set (kd := kd) (tc := tc) (rh := rh) (μ' := w3 μ f i k0 v) (C.2.2.2.2.2.2.1 μ) hE0 (fun f' i' hne => w3_ne hne)
  rw [← e] at e2
  rw [← e2]
  exact h1


end JR
