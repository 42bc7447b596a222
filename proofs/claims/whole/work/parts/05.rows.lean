/-! more rows: Math.max, min; a call of a nest mate's static method; a reference put into a field; what System.arraycopy leaves -/
def cp3 (μ : gM) (f1 i1 f i sp dp n : Nat) : gM := fun f' i' j => if f' = f1 ∧ i' = i1 then va_cpy (μ f i) (μ f1 i1) sp dp n j else μ f' i' j
theorem cp3_at (μ : gM) (f1 i1 f i sp dp n : Nat) : cp3 μ f1 i1 f i sp dp n f1 i1 = va_cpy (μ f i) (μ f1 i1) sp dp n := by
  funext k; simp [cp3]
theorem cp3_ne {μ : gM} {f1 i1 f i sp dp n f' i' : Nat} (h : ¬ (f' = f1 ∧ i' = i1)) : cp3 μ f1 i1 f i sp dp n f' i' = μ f' i' := by
  funext k
  unfold cp3
  rw [if_neg h]
section JR2
variable {p : Program} {l : Launch} {e : Env} {R : Room} {s : State} {m : MethodId} {args : Array Value} {below : List Frame} {meth : Method} {c : Code} {cc : ByteArray} {nL : Nat} {own : String} {D : va_G} {E : List (Nat × Nat)} {kd : Nat → gKd} {tc : Nat → ClassId} {ad : Nat → Nat → Nat} {rh : gRh} {sa : Nat → Nat} {A : Nat → Prop} {H0 : Heap} {cells slots : Nat} {Q : State → Prop} {μ : gM} {pc : Nat} {lv : List (Nat × Value)} {st : List Value}
theorem J_ldcw {n : Nat} {v : Int32} (hw : Cond.constant own n v ∈ BIG) (hdg : decode cc pc = .ok (.ldc_w n, 3)) {pc1 : Nat} (hp : pc + 3 = pc1) (k : J p l e R s m args below meth c cc nL own D E kd tc ad rh sa A H0 cells slots Q μ pc1 lv (.int v :: st)) : J p l e R s m args below meth c cc nL own D E kd tc ad rh sa A H0 cells slots Q μ pc lv st := by
  subst hp
  exact fun H locs ls C hP hS hl => lv_ldcw C.1 C.2.1 C.2.2.2.1 (C.2.2.2.2.1 _ hw) hdg (k H locs ls C hP hS hl)
theorem J_mmax {idx : Nat} {x y : Int32} (hw : Cond.methodLink own idx Lib.Math.max.name ∈ BIG) (h2 : Cond.static Lib.Math.max.name ∈ BIG) (h3 : Cond.initialized "java/lang/Math" ∈ BIG) (h4 : Cond.code Lib.Math.max.name Lib.Math.max.code 2 (some .int) ∈ BIG) (hR : 1 ≤ R.frames ∧ (st.map fun v => v.category).sum + 13 ≤ R.locals ∧ cells ≤ R.cells ∧ slots ≤ R.slots) (hdg : decode cc pc = .ok (.invokestatic idx, 3)) {pc1 : Nat} (hp : pc + 3 = pc1) (k : J p l e R s m args below meth c cc nL own D E kd tc ad rh sa A H0 cells slots Q μ pc1 lv (.int (if x < y then y else x) :: st)) : J p l e R s m args below meth c cc nL own D E kd tc ad rh sa A H0 cells slots Q μ pc lv (.int y :: .int x :: st) := by
  subst hp
  exact fun H locs ls C hP hS hl => va_mmax C.1 C.2.1 (C.2.2.1.trans hl.1.symm) C.2.2.2.1 (C.2.2.2.2.1 _ hw) (C.2.2.2.2.1 _ h2) (C.2.2.2.2.1 _ h3) (C.2.2.2.2.1 _ h4) hR.1 hR.2.1 hR.2.2.1 hR.2.2.2 hdg (k H locs ls C hP hS hl)
theorem J_mmin {idx : Nat} {x y : Int32} (hw : Cond.methodLink own idx Lib.Math.min.name ∈ BIG) (h2 : Cond.static Lib.Math.min.name ∈ BIG) (h3 : Cond.initialized "java/lang/Math" ∈ BIG) (h4 : Cond.code Lib.Math.min.name Lib.Math.min.code 2 (some .int) ∈ BIG) (hR : 1 ≤ R.frames ∧ (st.map fun v => v.category).sum + 13 ≤ R.locals ∧ cells ≤ R.cells ∧ slots ≤ R.slots) (hdg : decode cc pc = .ok (.invokestatic idx, 3)) {pc1 : Nat} (hp : pc + 3 = pc1) (k : J p l e R s m args below meth c cc nL own D E kd tc ad rh sa A H0 cells slots Q μ pc1 lv (.int (if y < x then y else x) :: st)) : J p l e R s m args below meth c cc nL own D E kd tc ad rh sa A H0 cells slots Q μ pc lv (.int y :: .int x :: st) := by
  subst hp
  exact fun H locs ls C hP hS hl => va_mmin C.1 C.2.1 (C.2.2.1.trans hl.1.symm) C.2.2.2.1 (C.2.2.2.2.1 _ hw) (C.2.2.2.2.1 _ h2) (C.2.2.2.2.1 _ h3) (C.2.2.2.2.1 _ h4) hR.1 hR.2.1 hR.2.2.1 hR.2.2.2 hdg (k H locs ls C hP hS hl)
theorem J_callSN {y : MethodName} {host : String} {bytes : ByteArray} {maxL n idx : Nat} {ret : Option FieldType} {rm : Room} {As : List Value} {o : Option Value} {μ1 : gM} (hM : gMet l y bytes maxL ret rm D E kd tc ad rh sa As μ o μ1) (hw : wCs y bytes maxL ret n) (hlk : ∀ U : State, gEV D tc sa A s H0 → va_Nw (.methodLinkNest own idx y host) s) (hn : As.length = n) (hrm : rm.cells = 0 ∧ rm.slots = 0 ∧ rm.frames + 1 ≤ R.frames ∧ 8 + (maxL + 11) + rm.locals ≤ R.locals) (hf : cells ≤ R.cells ∧ slots ≤ R.slots) (hst : (st.map fun v => v.category).sum ≤ 8) (hdg : decode cc pc = .ok (.invokestatic idx, 3)) {st1 : List Value} (hs : o.toList ++ st = st1) {pc1 : Nat} (hp : pc + 3 = pc1) (k : J p l e R s m args below meth c cc nL own D E kd tc ad rh sa A H0 cells slots Q μ1 pc1 lv st1) : J p l e R s m args below meth c cc nL own D E kd tc ad rh sa A H0 cells slots Q μ pc lv (As.reverse ++ st) := fun H locs ls C hP hS hl => by
  subst hp
  subst hs
  have hG := gGood hw.1.2.2
  have hwd : ∀ w ∈ BIG, w.before args s = true := C.2.2.2.2.1
  exact J_back (gA_le (g_inA C) C.2.2.2.2.2.2.2 hS) (va_runSN (As := As) (rest := st) ⟨C.1, C.2.1, C.2.2.1, C.2.2.2.1, hwd⟩ (hM H.size) ⟨va_cnB n hwd hG rfl hrm.1 hrm.2.1 (hlk s C.2.2.2.2.2.1) (hwd _ hw.1.2.1) hw.2 hrm.2.2, hwd _ hw.1.1, trivial⟩ ⟨gPc_blind, fun U hU hW => ⟨rfl, by rw [hU], by rw [hU]; exact hP, gEV.call C.2.2.2.2.2.1 hS (gA_le (g_inA C) C.2.2.2.2.2.2.2 hS) hU hW⟩⟩ rfl hn hl.1 rfl (lv_room hst) hdg hf) hS hl C k
theorem J_putR {f i ci n idx f' i' : Nat} {refs : List Nat} {Cn ref : String} {T : u_T} {v : Int32} (hE : (f, i) ∈ E) (hk : kd f = .inl (ci, n, refs)) (hc : vwCl[ci]? = some (Cn, T, n)) (hin : ∀ w ∈ u_ws Cn T n, w ∈ BIG) (ty0 : Nat → FieldType) (hty : ∀ k, k < n → parseFieldDescriptor (T k).2.2.1 = some (ty0 k)) (hnm : ∀ a, a < n → ∀ b, b < n → a ≠ b → (T a).2.1 ≠ (T b).2.1) (k0 : Nat) (hlt : k0 < n) (hr : refs.contains k0 = true) (hrl : ∀ (row : Nat → Int32) (j : Nat), refs.contains j = true → rh (upd row k0 v) f i j = if j = k0 then some (f', i') else rh row f i j) (hw : Cond.fieldLink own idx ref (T k0).2.1 (T k0).2.2.1 ∈ BIG) (href : ref = (T k0).1) (hfin : (T k0).2.2.2 = false) (hn : narrow (ty0 k0) (.ref (ad f' i')) = .ref (ad f' i')) (hfit : fits (ty0 k0) (.ref (ad f' i')) = true) (hdg : decode cc pc = .ok (.putfield idx, 3)) {pc1 : Nat} (hp : pc + 3 = pc1) (k : J p l e R s m args below meth c cc nL own D E kd tc ad rh sa A H0 cells slots Q (w3 μ f i k0 v) pc1 lv st) : J p l e R s m args below meth c cc nL own D E kd tc ad rh sa A H0 cells slots Q μ pc lv (.ref (ad f' i') :: .ref (ad f i) :: st) := fun H locs ls C hP hS hl => by
  subst hp
  obtain ⟨q0, hE0, hq⟩ := g_at (kd := kd) (tc := tc) (ad := ad) (rh := rh) (μ := μ) hE
  have hq' := hq
  rw [g_fld hk] at hq'
  refine va_put C.1 C.2.1 C.2.2.2.2.1 hin ty0 hty hnm C.2.2.2.1 C.2.2.2.2.2.1.1 hP (C.2.2.2.2.2.2.1 μ) hS q0 hq' hc k0 hlt (C.2.2.2.2.1 _ hw) (ref := ref) (fun x hx => by rw [href]; exact hx) hfin (hty k0 hlt) hn hfit (by simpa using hlt) hdg (fun H1 locs1 h1 h2 h3 => ?_)
  refine k H1 locs1 ls C ?_ h3 hl
  have e : (Sum.inr (ci, ((List.range n).map (g_v ad rh refs (μ f i) f i)).set k0 (.ref (ad f' i'))) : va_E) = g_e kd tc ad rh (w3 μ f i k0 v f i) f i := by
    rw [g_fld hk, g_rset, w3_row]
    show (Sum.inr _ : va_E) = _
    congr 2
    apply List.map_congr_left
    intro j hj
    by_cases hjk : j = k0
    · subst hjk
      rw [if_pos rfl]
      unfold g_v
      rw [if_pos hr, hrl _ _ hr, if_pos rfl]
      rfl
    · rw [if_neg hjk]
      unfold g_v
      by_cases hrj : refs.contains j = true
      · rw [if_pos hrj, if_pos hrj, hrl _ _ hrj, if_neg hjk]
      · rw [if_neg hrj, if_neg hrj]
        simp [upd, hjk]
  have e2 := g_set (kd := kd) (tc := tc) (rh := rh) (μ' := w3 μ f i k0 v) (C.2.2.2.2.2.2.1 μ) hE0 (fun f' i' hne => w3_ne hne)
  rw [← e] at e2
  rw [← e2]
  exact h1
end JR2
/-! the class's world, for nc clusters (one, or with the one that is kept) -/
abbrev gcnt (nc : Nat) : Nat → Nat := fun f => if f < 6 then 1 else if f < 11 then nc else if f < 19 then 5 * nc else 42 * nc
def gE_C (nc : Nat) : List (Nat × Nat) := (List.range 23).flatMap (fun f => (List.range (gcnt nc f)).map (fun i => (f, i)))
theorem gE_C_mem {nc f i : Nat} : (f, i) ∈ gE_C nc ↔ f < 23 ∧ i < gcnt nc f := by
  simp only [gE_C, List.mem_flatMap, List.mem_map, List.mem_range, Prod.mk.injEq]
  constructor
  · rintro ⟨f', h1, i', h2, h3, h4⟩
    subst h3; subst h4
    exact ⟨h1, h2⟩
  · rintro ⟨h1, h2⟩
    exact ⟨f, h1, i, h2, rfl, rfl⟩
def gkd_C : Nat → gKd := fun f => match f with
  | 0 => .inl (10, 4, [0, 1, 2, 3])
  | 1 => .inl (9, 6, [0, 1, 2, 3])
  | 2 => .inr (.inl (1, 80))
  | 3 => .inr (.inl (0, 16))
  | 4 => .inr (.inl (0, 16))
  | 5 => .inr (.inl (0, 16))
  | 6 => .inl (4, 9, [0, 1, 2])
  | 7 => .inr (.inr (2, 5))
  | 8 => .inr (.inl (0, 100))
  | 9 => .inl (7, 8, [0, 1, 2])
  | 10 => .inr (.inr (3, 40))
  | 11 => .inl (8, 12, [1, 2, 3, 4])
  | 12 => .inl (5, 12, [0, 1, 2])
  | 13 => .inr (.inl (0, 5))
  | 14 => .inr (.inl (0, 5))
  | 15 => .inr (.inl (0, 5))
  | 16 => .inr (.inl (0, 24))
  | 17 => .inr (.inl (0, 24))
  | 18 => .inr (.inl (0, 24))
  | 19 => .inl (6, 17, [0, 1, 2])
  | _ => .inr (.inl (0, 4))
def grh_C (nc : Nat) : gRh := fun row f i k => match f with
  | 0 => match k with
    | 0 => some (6, 0)
    | 1 => if nc = 2 then some (6, 1) else none
    | 2 => some (1, 0)
    | _ => some (23, 0)
  | 1 => some (2 + k, 0)
  | 6 => match k with
    | 0 => some (7, i)
    | 1 => some (9, i)
    | _ => some (8, i)
  | 7 => some (11, 5 * i + k)
  | 9 => match k with
    | 0 => some (10, i)
    | _ => some (19, (row k).toNatClampNeg)
  | 10 => some (19, (row k).toNatClampNeg)
  | 11 => some (11 + k, i)
  | 12 => some (16 + k, i)
  | 19 => some (20 + k, i)
  | _ => none
theorem eC0 {nc : Nat} : (0, 0) ∈ gE_C nc := gE_C_mem.mpr ⟨by decide, Nat.lt_succ_self 0⟩
theorem eC1 {nc : Nat} : (1, 0) ∈ gE_C nc := gE_C_mem.mpr ⟨by decide, Nat.lt_succ_self 0⟩
theorem eC2 {nc : Nat} : (2, 0) ∈ gE_C nc := gE_C_mem.mpr ⟨by decide, Nat.lt_succ_self 0⟩
theorem eC3 {nc : Nat} : (3, 0) ∈ gE_C nc := gE_C_mem.mpr ⟨by decide, Nat.lt_succ_self 0⟩
theorem eC4 {nc : Nat} : (4, 0) ∈ gE_C nc := gE_C_mem.mpr ⟨by decide, Nat.lt_succ_self 0⟩
theorem eC5 {nc : Nat} : (5, 0) ∈ gE_C nc := gE_C_mem.mpr ⟨by decide, Nat.lt_succ_self 0⟩
theorem eC6 {nc i : Nat} (h : i < nc) : (6, i) ∈ gE_C nc := gE_C_mem.mpr ⟨by decide, h⟩
theorem eC7 {nc i : Nat} (h : i < nc) : (7, i) ∈ gE_C nc := gE_C_mem.mpr ⟨by decide, h⟩
theorem eC8 {nc i : Nat} (h : i < nc) : (8, i) ∈ gE_C nc := gE_C_mem.mpr ⟨by decide, h⟩
theorem eC9 {nc i : Nat} (h : i < nc) : (9, i) ∈ gE_C nc := gE_C_mem.mpr ⟨by decide, h⟩
theorem eC10 {nc i : Nat} (h : i < nc) : (10, i) ∈ gE_C nc := gE_C_mem.mpr ⟨by decide, h⟩
theorem eC11 {nc i : Nat} (h : i < 5 * nc) : (11, i) ∈ gE_C nc := gE_C_mem.mpr ⟨by decide, h⟩
theorem eC12 {nc i : Nat} (h : i < 5 * nc) : (12, i) ∈ gE_C nc := gE_C_mem.mpr ⟨by decide, h⟩
theorem eC13 {nc i : Nat} (h : i < 5 * nc) : (13, i) ∈ gE_C nc := gE_C_mem.mpr ⟨by decide, h⟩
theorem eC14 {nc i : Nat} (h : i < 5 * nc) : (14, i) ∈ gE_C nc := gE_C_mem.mpr ⟨by decide, h⟩
theorem eC15 {nc i : Nat} (h : i < 5 * nc) : (15, i) ∈ gE_C nc := gE_C_mem.mpr ⟨by decide, h⟩
theorem eC16 {nc i : Nat} (h : i < 5 * nc) : (16, i) ∈ gE_C nc := gE_C_mem.mpr ⟨by decide, h⟩
theorem eC17 {nc i : Nat} (h : i < 5 * nc) : (17, i) ∈ gE_C nc := gE_C_mem.mpr ⟨by decide, h⟩
theorem eC18 {nc i : Nat} (h : i < 5 * nc) : (18, i) ∈ gE_C nc := gE_C_mem.mpr ⟨by decide, h⟩
theorem eC19 {nc i : Nat} (h : i < 42 * nc) : (19, i) ∈ gE_C nc := gE_C_mem.mpr ⟨by decide, h⟩
theorem eC20 {nc i : Nat} (h : i < 42 * nc) : (20, i) ∈ gE_C nc := gE_C_mem.mpr ⟨by decide, h⟩
theorem eC21 {nc i : Nat} (h : i < 42 * nc) : (21, i) ∈ gE_C nc := gE_C_mem.mpr ⟨by decide, h⟩
theorem eC22 {nc i : Nat} (h : i < 42 * nc) : (22, i) ∈ gE_C nc := gE_C_mem.mpr ⟨by decide, h⟩
theorem gRep {nc q : Nat} {x : Int32} (hq : q < nc) (h : inb x 5) : 5 * q + x.toNatClampNeg < 5 * nc := by
  have h2 : ¬ 5 ≤ x.toNatClampNeg := fun z => h (Or.inr z)
  omega
theorem gRepN {nc q j : Nat} (hq : q < nc) (h : j < 5) : 5 * q + j < 5 * nc := by omega
theorem gNI {nc t : Nat} (hnc : nc ≤ 2) (h : t < 42 * nc) : (nI t).toNatClampNeg = t := nI_clamp (by omega)
abbrev JC (p : Program) (l : Launch) (e : Env) (R : Room) (s : State) (m : MethodId) (args : Array Value) (below : List Frame) (meth : Method) (c : Code) (cc : ByteArray) (nL : Nat) (own : String) (D : va_G) (tc : Nat → ClassId) (sa : Nat → Nat) (ad : Nat → Nat → Nat) (nc : Nat) (sz : Nat) (o : Option Value) (μ' : gM) (μ : gM) (pc : Nat) (lv : List (Nat × Value)) (st : List Value) : Prop := J p l e R s m args below meth c cc nL own D (gE_C nc) gkd_C tc ad (grh_C nc) sa (gA (gE_C nc) ad sz) s.heap 0 0 (MQ below (gQ D (gE_C nc) gkd_C tc ad (grh_C nc) sz o μ') args s 0 0 (gA (gE_C nc) ad sz)) μ pc lv st
