/-! the law's two arrays beside a world -/
def gT2 (tc : Nat → ClassId) (cJ cD : ClassId) : List (ClassId × FieldType) := gT tc ++ [(cJ, .long), (cD, .double)]
def xl (cJ cD : ClassId) (x1 x2 : Nat) (v8 : Int64) (d8 : UInt64) : va_W := [(x1, .inl (cJ, 1, .inr (.inl (fun _ => v8)))), (x2, .inl (cD, 1, .inr (.inr (.inr (.inl (fun _ => d8))))))]
/-- they are there, apart from the world -/
def HX (D : va_G) (tc : Nat → ClassId) (cJ cD : ClassId) (s : State) (x1 x2 : Nat) (v8 : Int64) (d8 : UInt64) (E : List (Nat × Nat)) (ad : Nat → Nat → Nat) (A : Nat → Prop) (H : Heap) : Prop :=
  va_K D vwCl (gT2 tc cJ cD) s ∧ va_P D vwCl (xl cJ cD x1 x2 v8 d8) H ∧ x1 ≠ x2 ∧ A x1 ∧ A x2 ∧ ∀ f i, (f, i) ∈ E → ad f i ≠ x1 ∧ ad f i ≠ x2
def JX (cJ cD : ClassId) (x1 x2 : Nat) (v8 : Int64) (d8 : UInt64) (p : Program) (l : Launch) (e : Env) (R : Room) (s : State) (m : MethodId) (args : Array Value) (below : List Frame) (meth : Method) (c : Code) (cc : ByteArray) (nL : Nat) (own : String) (D : va_G) (E : List (Nat × Nat)) (kd : Nat → gKd) (tc : Nat → ClassId) (ad : Nat → Nat → Nat) (rh : gRh) (sa : Nat → Nat) (A : Nat → Prop) (H0 : Heap) (cells slots : Nat) (Q : State → Prop) (μ : gM) (pc : Nat) (lv : List (Nat × Value)) (st : List Value) : Prop :=
  ∀ (H : Heap) (locs : List Loc) (ls : Array Slot), Cx p s m args c cc nL own D E kd tc ad rh sa A H0 → va_P D vwCl (g_w E kd tc ad rh μ) H → HX D tc cJ cD s x1 x2 v8 d8 E ad A H → va_S A H0 H locs → lv_has ls nL lv → W p l e R s m args below meth c H locs cells slots Q (F0 m pc ls st)
theorem va_P_app {D : va_G} {cl : List vw_C} {a b : va_W} {H : Heap} (h1 : va_P D cl a H) (h2 : va_P D cl b H) : va_P D cl (a ++ b) H := fun k q hk => by
  rcases List.mem_append.mp (List.mem_of_getElem? hk) with h | h
  · obtain ⟨k1, e⟩ := List.getElem?_of_mem h
    exact h1 k1 q e
  · obtain ⟨k1, e⟩ := List.getElem?_of_mem h
    exact h2 k1 q e
theorem va_P_l {D : va_G} {cl : List vw_C} {a b : va_W} {H : Heap} (h : va_P D cl (a ++ b) H) : va_P D cl a H := gP_sub (fun _ hx => List.mem_append_left _ hx) h
theorem va_P_r {D : va_G} {cl : List vw_C} {a b : va_W} {H : Heap} (h : va_P D cl (a ++ b) H) : va_P D cl b H := gP_sub (fun _ hx => List.mem_append_right _ hx) h
/-- what lies beside is as it was where its cells are -/
theorem xl_kept {D : va_G} {cl : List vw_C} {cJ cD : ClassId} {x1 x2 : Nat} {v8 : Int64} {d8 : UInt64} {H H1 : Heap} (h : va_P D cl (xl cJ cD x1 x2 v8 d8) H) (h1 : H1[x1]? = H[x1]?) (h2 : H1[x2]? = H[x2]?) : va_P D cl (xl cJ cD x1 x2 v8 d8) H1 := fun k q hk => by
  match k, hk with
  | 0, hk =>
    cases hk
    exact (h 0 _ rfl).kept h1
  | 1, hk =>
    cases hk
    exact (h 1 _ rfl).kept h2
  | n + 2, hk => simp [xl] at hk
theorem xl_lt {D : va_G} {cl : List vw_C} {cJ cD : ClassId} {x1 x2 : Nat} {v8 : Int64} {d8 : UInt64} {H : Heap} (h : va_P D cl (xl cJ cD x1 x2 v8 d8) H) : x1 < H.size ∧ x2 < H.size := ⟨(h 0 _ rfl).lt, (h 1 _ rfl).lt⟩
theorem xl_D {cJ cD : ClassId} {x1 x2 : Nat} {v8 : Int64} {d8 : UInt64} {E : List (Nat × Nat)} {kd : Nat → gKd} {tc : Nat → ClassId} {ad : Nat → Nat → Nat} {rh : gRh} {μ : gM} {A : Nat → Prop} (hD : va_D A (g_w E kd tc ad rh μ)) (hn : x1 ≠ x2) (h1 : A x1) (h2 : A x2) (hx : ∀ f i, (f, i) ∈ E → ad f i ≠ x1 ∧ ad f i ≠ x2) : va_D A (xl cJ cD x1 x2 v8 d8 ++ g_w E kd tc ad rh μ) := by
  have key : ∀ (k : Nat) (q : Nat × va_E), (xl cJ cD x1 x2 v8 d8 ++ g_w E kd tc ad rh μ)[k]? = some q → (k = 0 ∧ q.1 = x1) ∨ (k = 1 ∧ q.1 = x2) ∨ (2 ≤ k ∧ (g_w E kd tc ad rh μ)[k - 2]? = some q ∧ q.1 ≠ x1 ∧ q.1 ≠ x2) := fun k q hk => by
    match k, hk with
    | 0, hk => cases hk; exact Or.inl ⟨rfl, rfl⟩
    | 1, hk => cases hk; exact Or.inr (Or.inl ⟨rfl, rfl⟩)
    | n + 2, hk =>
      rw [List.getElem?_append_right (by simp [xl])] at hk
      have hk2 : (g_w E kd tc ad rh μ)[n]? = some q := by simpa [xl] using hk
      obtain ⟨f, i, h4, rfl⟩ := g_w_mem.mp (List.mem_of_getElem? hk2)
      exact Or.inr (Or.inr ⟨by omega, hk2, (hx f i h4).1, (hx f i h4).2⟩)
  refine ⟨fun i j p q hi hj e => ?_, fun k q hk => ?_⟩
  · rcases key i p hi with ⟨a1, a2⟩ | ⟨a1, a2⟩ | ⟨a1, a2, a3, a4⟩ <;> rcases key j q hj with ⟨b1, b2⟩ | ⟨b1, b2⟩ | ⟨b1, b2, b3, b4⟩
    · omega
    · omega
    · omega
    · omega
    · omega
    · omega
    · omega
    · omega
    · have := hD.1 _ _ p q a2 b2 e
      omega
  · rcases key k q hk with ⟨a1, a2⟩ | ⟨a1, a2⟩ | ⟨a1, a2, a3, a4⟩
    · rw [a2]; exact h1
    · rw [a2]; exact h2
    · exact hD.2 _ q a2
theorem HX.cg {D : va_G} {tc : Nat → ClassId} {cJ cD : ClassId} {s : State} {x1 x2 : Nat} {v8 : Int64} {d8 : UInt64} {E E1 : List (Nat × Nat)} {ad ad1 : Nat → Nat → Nat} {A : Nat → Prop} {H : Heap} (h : HX D tc cJ cD s x1 x2 v8 d8 E ad A H) (k : ∀ f i, (f, i) ∈ E1 → ∃ f' i', (f', i') ∈ E ∧ ad1 f i = ad f' i') : HX D tc cJ cD s x1 x2 v8 d8 E1 ad1 A H := ⟨h.1, h.2.1, h.2.2.1, h.2.2.2.1, h.2.2.2.2.1, fun f i hf => by
  obtain ⟨f', i', h1, h2⟩ := k f i hf
  rw [h2]
  exact h.2.2.2.2.2 f' i' h1⟩
section JX1
variable {p : Program} {l : Launch} {e : Env} {R : Room} {s : State} {m : MethodId} {args : Array Value} {below : List Frame} {meth : Method} {c : Code} {cc : ByteArray} {nL : Nat} {own : String} {D : va_G} {E : List (Nat × Nat)} {kd : Nat → gKd} {tc : Nat → ClassId} {ad : Nat → Nat → Nat} {rh : gRh} {sa : Nat → Nat} {A : Nat → Prop} {H0 : Heap} {cells slots : Nat} {Q : State → Prop} {μ : gM} {pc : Nat} {lv : List (Nat × Value)} {st : List Value} {cJ cD : ClassId} {x1 x2 : Nat} {v8 : Int64} {d8 : UInt64}
theorem JX_iconst {n : Int} {v : Int32} (hdg : decode cc pc = .ok (.iconst n, 1)) (hv : Int32.ofInt n = v) {pc1 : Nat} (hp : pc + 1 = pc1) (k : JX cJ cD x1 x2 v8 d8 p l e R s m args below meth c cc nL own D E kd tc ad rh sa A H0 cells slots Q μ pc1 lv (.int v :: st)) : JX cJ cD x1 x2 v8 d8 p l e R s m args below meth c cc nL own D E kd tc ad rh sa A H0 cells slots Q μ pc lv (st) := by subst hp; exact fun H locs ls C hP hX hS hl => lv_iconst C.1 C.2.1 hdg hv (k H locs ls C hP hX hS hl)
theorem JX_bipush {n : Int} {v : Int32} (hdg : decode cc pc = .ok (.bipush n, 2)) (hv : (Int8.ofInt n).toInt32 = v) {pc1 : Nat} (hp : pc + 2 = pc1) (k : JX cJ cD x1 x2 v8 d8 p l e R s m args below meth c cc nL own D E kd tc ad rh sa A H0 cells slots Q μ pc1 lv (.int v :: st)) : JX cJ cD x1 x2 v8 d8 p l e R s m args below meth c cc nL own D E kd tc ad rh sa A H0 cells slots Q μ pc lv (st) := by subst hp; exact fun H locs ls C hP hX hS hl => lv_bipush C.1 C.2.1 hdg hv (k H locs ls C hP hX hS hl)
theorem JX_iload_n {k0 : Fin 4} {i q : Nat} {x : Int32} (hdg : decode cc pc = .ok (.iload_n k0, 1)) (hi : (k0 : Nat) = i) (hq : lv[q]? = some (i, .int x)) {pc1 : Nat} (hp : pc + 1 = pc1) (k : JX cJ cD x1 x2 v8 d8 p l e R s m args below meth c cc nL own D E kd tc ad rh sa A H0 cells slots Q μ pc1 lv (.int x :: st)) : JX cJ cD x1 x2 v8 d8 p l e R s m args below meth c cc nL own D E kd tc ad rh sa A H0 cells slots Q μ pc lv (st) := by subst hp; exact fun H locs ls C hP hX hS hl => lv_iload_n C.1 C.2.1 hdg hi (lv_at hl q hq) (k H locs ls C hP hX hS hl)
theorem JX_iload {i q : Nat} {x : Int32} (hdg : decode cc pc = .ok (.iload i, 2)) (hq : lv[q]? = some (i, .int x)) {pc1 : Nat} (hp : pc + 2 = pc1) (k : JX cJ cD x1 x2 v8 d8 p l e R s m args below meth c cc nL own D E kd tc ad rh sa A H0 cells slots Q μ pc1 lv (.int x :: st)) : JX cJ cD x1 x2 v8 d8 p l e R s m args below meth c cc nL own D E kd tc ad rh sa A H0 cells slots Q μ pc lv (st) := by subst hp; exact fun H locs ls C hP hX hS hl => lv_iload C.1 C.2.1 hdg (lv_at hl q hq) (k H locs ls C hP hX hS hl)
theorem JX_aload_n {k0 : Fin 4} {i q : Nat} {x : Nat} (hdg : decode cc pc = .ok (.aload_n k0, 1)) (hi : (k0 : Nat) = i) (hq : lv[q]? = some (i, .ref x)) {pc1 : Nat} (hp : pc + 1 = pc1) (k : JX cJ cD x1 x2 v8 d8 p l e R s m args below meth c cc nL own D E kd tc ad rh sa A H0 cells slots Q μ pc1 lv (.ref x :: st)) : JX cJ cD x1 x2 v8 d8 p l e R s m args below meth c cc nL own D E kd tc ad rh sa A H0 cells slots Q μ pc lv (st) := by subst hp; exact fun H locs ls C hP hX hS hl => lv_aload_n C.1 C.2.1 hdg hi (lv_at hl q hq) (k H locs ls C hP hX hS hl)
theorem JX_aload {i q : Nat} {x : Nat} (hdg : decode cc pc = .ok (.aload i, 2)) (hq : lv[q]? = some (i, .ref x)) {pc1 : Nat} (hp : pc + 2 = pc1) (k : JX cJ cD x1 x2 v8 d8 p l e R s m args below meth c cc nL own D E kd tc ad rh sa A H0 cells slots Q μ pc1 lv (.ref x :: st)) : JX cJ cD x1 x2 v8 d8 p l e R s m args below meth c cc nL own D E kd tc ad rh sa A H0 cells slots Q μ pc lv (st) := by subst hp; exact fun H locs ls C hP hX hS hl => lv_aload C.1 C.2.1 hdg (lv_at hl q hq) (k H locs ls C hP hX hS hl)
theorem JX_istore_n {k0 : Fin 4} {i : Nat} {x : Int32} {lv1 : List (Nat × Value)} (hdg : decode cc pc = .ok (.istore_n k0, 1)) (hi : (k0 : Nat) = i) (hn : i < nL) (hf : (i, Value.int x) :: lv.filter (fun q => !(q.1 == i) && !(q.1 + 1 == i && q.2.category == 2)) = lv1) {pc1 : Nat} (hp : pc + 1 = pc1) (k : JX cJ cD x1 x2 v8 d8 p l e R s m args below meth c cc nL own D E kd tc ad rh sa A H0 cells slots Q μ pc1 lv1 (st)) : JX cJ cD x1 x2 v8 d8 p l e R s m args below meth c cc nL own D E kd tc ad rh sa A H0 cells slots Q μ pc lv (.int x :: st) := by subst hp; exact fun H locs ls C hP hX hS hl => lv_istore_n C.1 C.2.1 hdg hi hl hn hf (fun ls1 h1 => k H locs ls1 C hP hX hS h1)
theorem JX_istore {i : Nat} {x : Int32} {lv1 : List (Nat × Value)} (hdg : decode cc pc = .ok (.istore i, 2)) (hn : i < nL) (hf : (i, Value.int x) :: lv.filter (fun q => !(q.1 == i) && !(q.1 + 1 == i && q.2.category == 2)) = lv1) {pc1 : Nat} (hp : pc + 2 = pc1) (k : JX cJ cD x1 x2 v8 d8 p l e R s m args below meth c cc nL own D E kd tc ad rh sa A H0 cells slots Q μ pc1 lv1 (st)) : JX cJ cD x1 x2 v8 d8 p l e R s m args below meth c cc nL own D E kd tc ad rh sa A H0 cells slots Q μ pc lv (.int x :: st) := by subst hp; exact fun H locs ls C hP hX hS hl => lv_istore C.1 C.2.1 hdg hl hn hf (fun ls1 h1 => k H locs ls1 C hP hX hS h1)
theorem JX_astore_n {k0 : Fin 4} {i : Nat} {x : Nat} {lv1 : List (Nat × Value)} (hdg : decode cc pc = .ok (.astore_n k0, 1)) (hi : (k0 : Nat) = i) (hn : i < nL) (hf : (i, Value.ref x) :: lv.filter (fun q => !(q.1 == i) && !(q.1 + 1 == i && q.2.category == 2)) = lv1) {pc1 : Nat} (hp : pc + 1 = pc1) (k : JX cJ cD x1 x2 v8 d8 p l e R s m args below meth c cc nL own D E kd tc ad rh sa A H0 cells slots Q μ pc1 lv1 (st)) : JX cJ cD x1 x2 v8 d8 p l e R s m args below meth c cc nL own D E kd tc ad rh sa A H0 cells slots Q μ pc lv (.ref x :: st) := by subst hp; exact fun H locs ls C hP hX hS hl => lv_astore_n C.1 C.2.1 hdg hi hl hn hf (fun ls1 h1 => k H locs ls1 C hP hX hS h1)
theorem JX_astore {i : Nat} {x : Nat} {lv1 : List (Nat × Value)} (hdg : decode cc pc = .ok (.astore i, 2)) (hn : i < nL) (hf : (i, Value.ref x) :: lv.filter (fun q => !(q.1 == i) && !(q.1 + 1 == i && q.2.category == 2)) = lv1) {pc1 : Nat} (hp : pc + 2 = pc1) (k : JX cJ cD x1 x2 v8 d8 p l e R s m args below meth c cc nL own D E kd tc ad rh sa A H0 cells slots Q μ pc1 lv1 (st)) : JX cJ cD x1 x2 v8 d8 p l e R s m args below meth c cc nL own D E kd tc ad rh sa A H0 cells slots Q μ pc lv (.ref x :: st) := by subst hp; exact fun H locs ls C hP hX hS hl => lv_astore C.1 C.2.1 hdg hl hn hf (fun ls1 h1 => k H locs ls1 C hP hX hS h1)
theorem JX_iinc {i q : Nat} {n : Int} {x v : Int32} {lv1 : List (Nat × Value)} (hdg : decode cc pc = .ok (.iinc i n, 3)) (hq : lv[q]? = some (i, .int x)) (hv : x + Int32.ofInt n = v) (hn : i < nL) (hf : (i, Value.int v) :: lv.filter (fun q => !(q.1 == i) && !(q.1 + 1 == i && q.2.category == 2)) = lv1) {pc1 : Nat} (hp : pc + 3 = pc1) (k : JX cJ cD x1 x2 v8 d8 p l e R s m args below meth c cc nL own D E kd tc ad rh sa A H0 cells slots Q μ pc1 lv1 (st)) : JX cJ cD x1 x2 v8 d8 p l e R s m args below meth c cc nL own D E kd tc ad rh sa A H0 cells slots Q μ pc lv (st) := by subst hp; exact fun H locs ls C hP hX hS hl => lv_iinc C.1 C.2.1 hdg hl hq hv hn hf (fun ls1 h1 => k H locs ls1 C hP hX hS h1)
theorem JX_iadd {x y : Int32} (hdg : decode cc pc = .ok (.iadd, 1)) {pc1 : Nat} (hp : pc + 1 = pc1) (k : JX cJ cD x1 x2 v8 d8 p l e R s m args below meth c cc nL own D E kd tc ad rh sa A H0 cells slots Q μ pc1 lv (.int (x + y) :: st)) : JX cJ cD x1 x2 v8 d8 p l e R s m args below meth c cc nL own D E kd tc ad rh sa A H0 cells slots Q μ pc lv (.int y :: .int x :: st) := by subst hp; exact fun H locs ls C hP hX hS hl => lv_iadd C.1 C.2.1 hdg (k H locs ls C hP hX hS hl)
theorem JX_isub {x y : Int32} (hdg : decode cc pc = .ok (.isub, 1)) {pc1 : Nat} (hp : pc + 1 = pc1) (k : JX cJ cD x1 x2 v8 d8 p l e R s m args below meth c cc nL own D E kd tc ad rh sa A H0 cells slots Q μ pc1 lv (.int (x - y) :: st)) : JX cJ cD x1 x2 v8 d8 p l e R s m args below meth c cc nL own D E kd tc ad rh sa A H0 cells slots Q μ pc lv (.int y :: .int x :: st) := by subst hp; exact fun H locs ls C hP hX hS hl => lv_isub C.1 C.2.1 hdg (k H locs ls C hP hX hS hl)
theorem JX_iand {x y : Int32} (hdg : decode cc pc = .ok (.iand, 1)) {pc1 : Nat} (hp : pc + 1 = pc1) (k : JX cJ cD x1 x2 v8 d8 p l e R s m args below meth c cc nL own D E kd tc ad rh sa A H0 cells slots Q μ pc1 lv (.int (x &&& y) :: st)) : JX cJ cD x1 x2 v8 d8 p l e R s m args below meth c cc nL own D E kd tc ad rh sa A H0 cells slots Q μ pc lv (.int y :: .int x :: st) := by subst hp; exact fun H locs ls C hP hX hS hl => lv_iand C.1 C.2.1 hdg (k H locs ls C hP hX hS hl)
theorem JX_i2c {x : Int32} (hdg : decode cc pc = .ok (.i2c, 1)) {pc1 : Nat} (hp : pc + 1 = pc1) (k : JX cJ cD x1 x2 v8 d8 p l e R s m args below meth c cc nL own D E kd tc ad rh sa A H0 cells slots Q μ pc1 lv (.int (i2c x) :: st)) : JX cJ cD x1 x2 v8 d8 p l e R s m args below meth c cc nL own D E kd tc ad rh sa A H0 cells slots Q μ pc lv (.int x :: st) := by subst hp; exact fun H locs ls C hP hX hS hl => lv_i2c C.1 C.2.1 hdg rfl (k H locs ls C hP hX hS hl)
theorem JX_dup {v : Value} (hdg : decode cc pc = .ok (.dup, 1)) (hc : v.category = 1) {pc1 : Nat} (hp : pc + 1 = pc1) (k : JX cJ cD x1 x2 v8 d8 p l e R s m args below meth c cc nL own D E kd tc ad rh sa A H0 cells slots Q μ pc1 lv (v :: v :: st)) : JX cJ cD x1 x2 v8 d8 p l e R s m args below meth c cc nL own D E kd tc ad rh sa A H0 cells slots Q μ pc lv (v :: st) := by subst hp; exact fun H locs ls C hP hX hS hl => lv_dup C.1 C.2.1 hdg hc (k H locs ls C hP hX hS hl)
theorem JX_goto {off : Int} {tgt : Nat} (hdg : decode cc pc = .ok (.goto off, 3)) (ht : (pc : Int) + off = (tgt : Int)) (k : JX cJ cD x1 x2 v8 d8 p l e R s m args below meth c cc nL own D E kd tc ad rh sa A H0 cells slots Q μ (tgt) lv (st)) : JX cJ cD x1 x2 v8 d8 p l e R s m args below meth c cc nL own D E kd tc ad rh sa A H0 cells slots Q μ pc lv (st) := fun H locs ls C hP hX hS hl => lv_goto C.1 C.2.1 hdg ht (k H locs ls C hP hX hS hl)
theorem JX_icmp_eq {x y : Int32} {off : Int} {tgt : Nat} (hdg : decode cc pc = .ok (.if_icmp .eq off, 3)) (ht : (pc : Int) + off = (tgt : Int)) (kt : x = y → JX cJ cD x1 x2 v8 d8 p l e R s m args below meth c cc nL own D E kd tc ad rh sa A H0 cells slots Q μ tgt lv st) {pc1 : Nat} (hp : pc + 3 = pc1) (kf : ¬ x = y → JX cJ cD x1 x2 v8 d8 p l e R s m args below meth c cc nL own D E kd tc ad rh sa A H0 cells slots Q μ pc1 lv st) : JX cJ cD x1 x2 v8 d8 p l e R s m args below meth c cc nL own D E kd tc ad rh sa A H0 cells slots Q μ pc lv (.int y :: .int x :: st) := by subst hp; exact fun H locs ls C hP hX hS hl => lv_icmp_eq C.1 C.2.1 hdg ht (fun q => kt q H locs ls C hP hX hS hl) (fun q => kf q H locs ls C hP hX hS hl)
theorem JX_icmp_gt {x y : Int32} {off : Int} {tgt : Nat} (hdg : decode cc pc = .ok (.if_icmp .gt off, 3)) (ht : (pc : Int) + off = (tgt : Int)) (kt : y < x → JX cJ cD x1 x2 v8 d8 p l e R s m args below meth c cc nL own D E kd tc ad rh sa A H0 cells slots Q μ tgt lv st) {pc1 : Nat} (hp : pc + 3 = pc1) (kf : ¬ y < x → JX cJ cD x1 x2 v8 d8 p l e R s m args below meth c cc nL own D E kd tc ad rh sa A H0 cells slots Q μ pc1 lv st) : JX cJ cD x1 x2 v8 d8 p l e R s m args below meth c cc nL own D E kd tc ad rh sa A H0 cells slots Q μ pc lv (.int y :: .int x :: st) := by subst hp; exact fun H locs ls C hP hX hS hl => lv_icmp_gt C.1 C.2.1 hdg ht (fun q => kt q H locs ls C hP hX hS hl) (fun q => kf q H locs ls C hP hX hS hl)
theorem JX_if_eq {x : Int32} {off : Int} {tgt : Nat} (hdg : decode cc pc = .ok (.ifCond .eq off, 3)) (ht : (pc : Int) + off = (tgt : Int)) (kt : x = 0 → JX cJ cD x1 x2 v8 d8 p l e R s m args below meth c cc nL own D E kd tc ad rh sa A H0 cells slots Q μ tgt lv st) {pc1 : Nat} (hp : pc + 3 = pc1) (kf : ¬ x = 0 → JX cJ cD x1 x2 v8 d8 p l e R s m args below meth c cc nL own D E kd tc ad rh sa A H0 cells slots Q μ pc1 lv st) : JX cJ cD x1 x2 v8 d8 p l e R s m args below meth c cc nL own D E kd tc ad rh sa A H0 cells slots Q μ pc lv (.int x :: st) := by subst hp; exact fun H locs ls C hP hX hS hl => lv_if_eq C.1 C.2.1 hdg ht (fun q => kt q H locs ls C hP hX hS hl) (fun q => kf q H locs ls C hP hX hS hl)
theorem JX_if_ne {x : Int32} {off : Int} {tgt : Nat} (hdg : decode cc pc = .ok (.ifCond .ne off, 3)) (ht : (pc : Int) + off = (tgt : Int)) (kt : ¬ x = 0 → JX cJ cD x1 x2 v8 d8 p l e R s m args below meth c cc nL own D E kd tc ad rh sa A H0 cells slots Q μ tgt lv st) {pc1 : Nat} (hp : pc + 3 = pc1) (kf : x = 0 → JX cJ cD x1 x2 v8 d8 p l e R s m args below meth c cc nL own D E kd tc ad rh sa A H0 cells slots Q μ pc1 lv st) : JX cJ cD x1 x2 v8 d8 p l e R s m args below meth c cc nL own D E kd tc ad rh sa A H0 cells slots Q μ pc lv (.int x :: st) := by subst hp; exact fun H locs ls C hP hX hS hl => lv_if_ne C.1 C.2.1 hdg ht (fun q => kt q H locs ls C hP hX hS hl) (fun q => kf q H locs ls C hP hX hS hl)
theorem JX_sub (ks : List Nat) {lv1 : List (Nat × Value)} (h : lv_pick lv ks = lv1) (k : JX cJ cD x1 x2 v8 d8 p l e R s m args below meth c cc nL own D E kd tc ad rh sa A H0 cells slots Q μ pc lv1 st) : JX cJ cD x1 x2 v8 d8 p l e R s m args below meth c cc nL own D E kd tc ad rh sa A H0 cells slots Q μ pc lv st := fun H locs ls C hP hX hS hl => k H locs ls C hP hX hS (lv_sub hl ks h)

theorem JX_swIn {dflt lo hi : Int} {offs : Array Int} {len : Nat} {x v : Int32} {off : Int} {tgt : Nat} (hdg : decode cc pc = .ok (.tableswitch dflt lo hi offs, len)) (hx : x = v) (h1 : ¬ v.toInt < lo ∧ ¬ hi < v.toInt ∧ offs[(v.toInt - lo).toNat]? = some off ∧ (pc : Int) + off = (tgt : Int)) (k : JX cJ cD x1 x2 v8 d8 p l e R s m args below meth c cc nL own D E kd tc ad rh sa A H0 cells slots Q μ tgt lv st) : JX cJ cD x1 x2 v8 d8 p l e R s m args below meth c cc nL own D E kd tc ad rh sa A H0 cells slots Q μ pc lv (.int x :: st) := fun H locs ls C hP hX hS hl => by
  subst hx; exact lv_tableIn C.1 C.2.1 hdg h1.1 h1.2.1 h1.2.2.1 h1.2.2.2 (k H locs ls C hP hX hS hl)
theorem JX_swOut {dflt lo hi : Int} {offs : Array Int} {len : Nat} {x : Int32} {tgt : Nat} (hdg : decode cc pc = .ok (.tableswitch dflt lo hi offs, len)) (h : x.toInt < lo ∨ hi < x.toInt) (ht : (pc : Int) + dflt = (tgt : Int)) (k : JX cJ cD x1 x2 v8 d8 p l e R s m args below meth c cc nL own D E kd tc ad rh sa A H0 cells slots Q μ tgt lv st) : JX cJ cD x1 x2 v8 d8 p l e R s m args below meth c cc nL own D E kd tc ad rh sa A H0 cells slots Q μ pc lv (.int x :: st) := fun H locs ls C hP hX hS hl => lv_tableOut C.1 C.2.1 hdg h ht (k H locs ls C hP hX hS hl)
theorem JX_eqI {x y : Int32} (h : x = y) (k : JX cJ cD x1 x2 v8 d8 p l e R s m args below meth c cc nL own D E kd tc ad rh sa A H0 cells slots Q μ pc lv (.int y :: st)) : JX cJ cD x1 x2 v8 d8 p l e R s m args below meth c cc nL own D E kd tc ad rh sa A H0 cells slots Q μ pc lv (.int x :: st) := by
  subst h; exact k
theorem vp_in01 : vp_in 0 1 := (vp_in_nI (by omega) (by decide) : vp_in (nI 0) 1)
theorem JX_widen {cells1 slots1 : Nat} (h1 : cells ≤ cells1) (h2 : slots ≤ slots1) (k : JX cJ cD x1 x2 v8 d8 p l e R s m args below meth c cc nL own D E kd tc ad rh sa A H0 cells1 slots1 Q μ pc lv st) : JX cJ cD x1 x2 v8 d8 p l e R s m args below meth c cc nL own D E kd tc ad rh sa A H0 cells slots Q μ pc lv st := fun H locs ls C hP hX hS hl => W.widen h1 h2 (k H locs ls C hP hX hS hl)
theorem JX_lconst {n : Fin 2} {v : Int64} (hdg : decode cc pc = .ok (.lconst n, 1)) (hv : Int64.ofNat (n : Nat) = v) {pc1 : Nat} (hp : pc + 1 = pc1) (k : JX cJ cD x1 x2 v8 d8 p l e R s m args below meth c cc nL own D E kd tc ad rh sa A H0 cells slots Q μ pc1 lv (.long v :: st)) : JX cJ cD x1 x2 v8 d8 p l e R s m args below meth c cc nL own D E kd tc ad rh sa A H0 cells slots Q μ pc lv st := by
  subst hp
  exact fun H locs ls C hP hX hS hl => lv_lconst C.1 C.2.1 hdg hv (k H locs ls C hP hX hS hl)
theorem JX_i2l {x : Int32} {v : Int64} (hdg : decode cc pc = .ok (.i2l, 1)) (hv : x.toInt64 = v) {pc1 : Nat} (hp : pc + 1 = pc1) (k : JX cJ cD x1 x2 v8 d8 p l e R s m args below meth c cc nL own D E kd tc ad rh sa A H0 cells slots Q μ pc1 lv (.long v :: st)) : JX cJ cD x1 x2 v8 d8 p l e R s m args below meth c cc nL own D E kd tc ad rh sa A H0 cells slots Q μ pc lv (.int x :: st) := by
  subst hp
  exact fun H locs ls C hP hX hS hl => lv_i2l C.1 C.2.1 hdg hv (k H locs ls C hP hX hS hl)
theorem JX_dcmp {x y : UInt64} {op : CmpOp} {v : Int32} (hdg : decode cc pc = .ok (.dcmp op, 1)) (hv : Op.cmpValue (FP.dcmp x y) op = v) {pc1 : Nat} (hp : pc + 1 = pc1) (k : JX cJ cD x1 x2 v8 d8 p l e R s m args below meth c cc nL own D E kd tc ad rh sa A H0 cells slots Q μ pc1 lv (.int v :: st)) : JX cJ cD x1 x2 v8 d8 p l e R s m args below meth c cc nL own D E kd tc ad rh sa A H0 cells slots Q μ pc lv (.double y :: .double x :: st) := by
  subst hp; subst hv
  exact fun H locs ls C hP hX hS hl => lv_dcmp C.1 C.2.1 hdg (k H locs ls C hP hX hS hl)
theorem JX_dload {i q : Nat} {x : UInt64} (hdg : decode cc pc = .ok (.dload i, 2)) (hq : lv[q]? = some (i, .double x)) {pc1 : Nat} (hp : pc + 2 = pc1) (k : JX cJ cD x1 x2 v8 d8 p l e R s m args below meth c cc nL own D E kd tc ad rh sa A H0 cells slots Q μ pc1 lv (.double x :: st)) : JX cJ cD x1 x2 v8 d8 p l e R s m args below meth c cc nL own D E kd tc ad rh sa A H0 cells slots Q μ pc lv st := by
  subst hp
  exact fun H locs ls C hP hX hS hl => lv_dload C.1 C.2.1 hdg (lv_at hl q hq) (k H locs ls C hP hX hS hl)
theorem JX_dstore {i : Nat} {x : UInt64} {lv1 : List (Nat × Value)} (hdg : decode cc pc = .ok (.dstore i, 2)) (hn : i + 1 < nL) (hf : (i, Value.double x) :: lv.filter (fun q => !(q.1 == i) && (!(q.1 == i + 1) && !(q.1 + 1 == i && q.2.category == 2))) = lv1) {pc1 : Nat} (hp : pc + 2 = pc1) (k : JX cJ cD x1 x2 v8 d8 p l e R s m args below meth c cc nL own D E kd tc ad rh sa A H0 cells slots Q μ pc1 lv1 st) : JX cJ cD x1 x2 v8 d8 p l e R s m args below meth c cc nL own D E kd tc ad rh sa A H0 cells slots Q μ pc lv (.double x :: st) := by
  subst hp
  exact fun H locs ls C hP hX hS hl => lv_dstore C.1 C.2.1 hdg hl hn hf (fun ls1 h1 => k H locs ls1 C hP hX hS h1)
theorem JX_lcmp {x y : Int64} {v : Int32} (hdg : decode cc pc = .ok (.lcmp, 1)) (hv : lg_cmp x y = v) {pc1 : Nat} (hp : pc + 1 = pc1) (k : JX cJ cD x1 x2 v8 d8 p l e R s m args below meth c cc nL own D E kd tc ad rh sa A H0 cells slots Q μ pc1 lv (.int v :: st)) : JX cJ cD x1 x2 v8 d8 p l e R s m args below meth c cc nL own D E kd tc ad rh sa A H0 cells slots Q μ pc lv (.long y :: .long x :: st) := by
  subst hp; subst hv
  exact fun H locs ls C hP hX hS hl => W.lcmp C.1 C.2.1 hdg (k H locs ls C hP hX hS hl)
theorem JX_slen {b L : Nat} {xs : Nat → Int32} (hx : va_X b L xs s H0) (hbl : b < H0.size) (hbA : ¬ A b) (hdg : decode cc pc = .ok (.arraylength, 1)) {pc1 : Nat} (hp : pc + 1 = pc1) (k : JX cJ cD x1 x2 v8 d8 p l e R s m args below meth c cc nL own D E kd tc ad rh sa A H0 cells slots Q μ pc1 lv (.int (Int32.ofNat L) :: st)) : JX cJ cD x1 x2 v8 d8 p l e R s m args below meth c cc nL own D E kd tc ad rh sa A H0 cells slots Q μ pc lv (.ref b :: st) := by
  subst hp
  exact fun H locs ls C hP hX hS hl => va_slen C.1 C.2.1 hx hbl hbA hS hdg (k H locs ls C hP hX hS hl)
theorem JX_sld {b L : Nat} {xs : Nat → Int32} {i x : Int32} (hx : va_X b L xs s H0) (hbl : b < H0.size) (hbA : ¬ A b) (hin : vp_in i L) (hv : xs i.toNatClampNeg = x) (hdg : decode cc pc = .ok (.iaload, 1)) {pc1 : Nat} (hp : pc + 1 = pc1) (k : JX cJ cD x1 x2 v8 d8 p l e R s m args below meth c cc nL own D E kd tc ad rh sa A H0 cells slots Q μ pc1 lv (.int x :: st)) : JX cJ cD x1 x2 v8 d8 p l e R s m args below meth c cc nL own D E kd tc ad rh sa A H0 cells slots Q μ pc lv (.int i :: .ref b :: st) := by
  subst hp; subst hv
  exact fun H locs ls C hP hX hS hl => va_sld C.1 C.2.1 hx hbl hbA hS hin hdg (k H locs ls C hP hX hS hl)
theorem JX_lald (hdg : decode cc pc = .ok (.laload, 1)) {pc1 : Nat} (hp : pc + 1 = pc1) (k : JX cJ cD x1 x2 v8 d8 p l e R s m args below meth c cc nL own D E kd tc ad rh sa A H0 cells slots Q μ pc1 lv (.long v8 :: st)) : JX cJ cD x1 x2 v8 d8 p l e R s m args below meth c cc nL own D E kd tc ad rh sa A H0 cells slots Q μ pc lv (.int 0 :: .ref x1 :: st) := by
  subst hp
  exact fun H locs ls C hP hX hS hl => va_lald C.1 C.2.1 hX.1 hX.2.1 0 5 (n := 1) (f := fun _ => v8) rfl rfl vp_in01 hdg (k H locs ls C hP hX hS hl)
theorem JX_dald (hdg : decode cc pc = .ok (.daload, 1)) {pc1 : Nat} (hp : pc + 1 = pc1) (k : JX cJ cD x1 x2 v8 d8 p l e R s m args below meth c cc nL own D E kd tc ad rh sa A H0 cells slots Q μ pc1 lv (.double d8 :: st)) : JX cJ cD x1 x2 v8 d8 p l e R s m args below meth c cc nL own D E kd tc ad rh sa A H0 cells slots Q μ pc lv (.int 0 :: .ref x2 :: st) := by
  subst hp
  exact fun H locs ls C hP hX hS hl => va_dald C.1 C.2.1 hX.1 hX.2.1 1 6 (n := 1) (f := fun _ => d8) rfl rfl vp_in01 hdg (k H locs ls C hP hX hS hl)
theorem xl_cell {cJ : ClassId} {g : Nat → Int64} {w : Int64} (h : g 0 = w) : vp_cell cJ (1, .inr (.inl g)) = vp_cell cJ (1, .inr (.inl (fun _ => w))) := by
  show arrV cJ 1 (fun j => .long (g j)) = arrV cJ 1 (fun _ => .long w)
  unfold arrV
  congr 2
  funext j
  have hj : j.1 = 0 := by omega
  show Value.long (g j.1) = .long w
  rw [hj, h]
theorem xl_cellD {cD : ClassId} {g : Nat → UInt64} {w : UInt64} (h : g 0 = w) : vp_cell cD (1, .inr (.inr (.inr (.inl g)))) = vp_cell cD (1, .inr (.inr (.inr (.inl (fun _ => w))))) := by
  show arrV cD 1 (fun j => .double (g j)) = arrV cD 1 (fun _ => .double w)
  unfold arrV
  congr 2
  funext j
  have hj : j.1 = 0 := by omega
  show Value.double (g j.1) = .double w
  rw [hj, h]
theorem JX_last {w : Int64} (hdg : decode cc pc = .ok (.lastore, 1)) {pc1 : Nat} (hp : pc + 1 = pc1) (k : JX cJ cD x1 x2 w d8 p l e R s m args below meth c cc nL own D E kd tc ad rh sa A H0 cells slots Q μ pc1 lv st) : JX cJ cD x1 x2 v8 d8 p l e R s m args below meth c cc nL own D E kd tc ad rh sa A H0 cells slots Q μ pc lv (.long w :: .int 0 :: .ref x1 :: st) := by
  subst hp
  exact fun H locs ls C hP hX hS hl => va_last C.1 C.2.1 hX.1 (va_P_app hX.2.1 hP) (xl_D (C.2.2.2.2.2.2.1 μ) hX.2.2.1 hX.2.2.2.1 hX.2.2.2.2.1 hX.2.2.2.2.2) hS 0 5 (n := 1) (f := fun _ => v8) rfl rfl vp_in01 hdg (fun H1 locs1 g1 g2 g3 => k H1 locs1 ls C (va_P_r (a := [_, _]) g1) ⟨hX.1, fun k q hk => by
    match k, hk with
    | 0, hk =>
      cases hk
      exact (show H1[x1]? = some (vp_cell cJ (1, .inr (.inl (vp_updL (fun _ => v8) (0 : Int32).toNatClampNeg w)))) from g1 0 _ rfl).trans (congrArg some (xl_cell (if_pos rfl)))
    | 1, hk =>
      cases hk
      exact g1 1 _ rfl
    | n + 2, hk => simp [xl] at hk, hX.2.2⟩ g3 hl)
theorem JX_dast {w : UInt64} (hdg : decode cc pc = .ok (.dastore, 1)) {pc1 : Nat} (hp : pc + 1 = pc1) (k : JX cJ cD x1 x2 v8 w p l e R s m args below meth c cc nL own D E kd tc ad rh sa A H0 cells slots Q μ pc1 lv st) : JX cJ cD x1 x2 v8 d8 p l e R s m args below meth c cc nL own D E kd tc ad rh sa A H0 cells slots Q μ pc lv (.double w :: .int 0 :: .ref x2 :: st) := by
  subst hp
  exact fun H locs ls C hP hX hS hl => va_dast C.1 C.2.1 hX.1 (va_P_app hX.2.1 hP) (xl_D (C.2.2.2.2.2.2.1 μ) hX.2.2.1 hX.2.2.2.1 hX.2.2.2.2.1 hX.2.2.2.2.2) hS 1 6 (n := 1) (f := fun _ => d8) rfl rfl vp_in01 hdg (fun H1 locs1 g1 g2 g3 => k H1 locs1 ls C (va_P_r (a := [_, _]) g1) ⟨hX.1, fun k q hk => by
    match k, hk with
    | 0, hk =>
      cases hk
      exact g1 0 _ rfl
    | 1, hk =>
      cases hk
      exact (show H1[x2]? = some (vp_cell cD (1, .inr (.inr (.inr (.inl (vf_upd (fun _ => d8) (0 : Int32).toNatClampNeg w)))))) from g1 1 _ rfl).trans (congrArg some (xl_cellD (if_pos rfl)))
    | n + 2, hk => simp [xl] at hk, hX.2.2⟩ g3 hl)
end JX1
