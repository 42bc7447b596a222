/-! growing worlds, where what a cell points to is read off its row: rows for constructors -/
/-- the places of a cell that are references -/
def gRl (kd : Nat → gKd) (f k : Nat) : Prop := match kd f with
  | .inl z => z.2.2.contains k = true ∧ k < z.2.1
  | .inr (.inl _) => False
  | .inr (.inr _) => True
theorem g_e_cg {kd : Nat → gKd} {tc : Nat → ClassId} {ad ad1 : Nat → Nat → Nat} {rh rh1 : gRh} {row : Nat → Int32} {f i : Nat} (h : ∀ k, gRl kd f k → (rh1 row f i k).map (fun z => ad1 z.1 z.2) = (rh row f i k).map (fun z => ad z.1 z.2)) : g_e kd tc ad1 rh1 row f i = g_e kd tc ad rh row f i := by
  unfold g_e
  unfold gRl at h
  cases hk : kd f with
  | inl z =>
    rw [hk] at h
    show Sum.inr _ = Sum.inr _
    congr 2
    apply List.map_congr_left
    intro k hm
    unfold g_v g_va
    by_cases hr : z.2.2.contains k = true
    · rw [if_pos hr, if_pos hr, h k ⟨hr, List.mem_range.mp hm⟩]
    · rw [if_neg hr, if_neg hr]
  | inr z =>
    rw [hk] at h
    cases z with
    | inl z => rfl
    | inr z =>
      show Sum.inl _ = Sum.inl _
      have e : (fun j => (rh1 row f i j).map (fun q => ad1 q.1 q.2)) = (fun j => (rh row f i j).map (fun q => ad q.1 q.2)) := funext fun j => h j trivial
      simp only [e]
theorem g_e_ad2 {kd : Nat → gKd} {tc : Nat → ClassId} {ad : Nat → Nat → Nat} {rh : gRh} {f0 i0 q f i : Nat} {row : Nat → Int32} (h : ∀ k, gRl kd f k → rh row f i k ≠ some (f0, i0)) : g_e kd tc (gAd ad f0 i0 q) rh row f i = g_e kd tc ad rh row f i := g_e_cg (fun k hk => by
  cases hz : rh row f i k with
  | none => rfl
  | some z =>
    refine congrArg some (gAd_ne (fun e => h k hk ?_))
    rw [hz, ← e.1, ← e.2])
section GN2
variable {p : Program} {l : Launch} {e : Env} {R : Room} {s : State} {m : MethodId} {args : Array Value} {below : List Frame} {meth : Method} {c : Code} {cc : ByteArray} {nL : Nat} {own : String} {D : va_G} {E : List (Nat × Nat)} {kd : Nat → gKd} {tc : Nat → ClassId} {ad : Nat → Nat → Nat} {rh : gRh} {sa : Nat → Nat} {A : Nat → Prop} {H0 : Heap} {cells slots : Nat} {Q : State → Prop} {μ : gM} {pc : Nat} {lv : List (Nat × Value)} {st : List Value}
theorem J_newIk {n : Int32} {N f0 i0 : Nat} (hf : (f0, i0) ∉ E) (hk : kd f0 = .inr (.inl (0, N))) (hrh : ∀ f i k, (f, i) ∈ E → gRl kd f k → rh (μ f i) f i k ≠ some (f0, i0)) (harr : Cond.arrayClass .int ∈ BIG) (hn : ¬ n < 0) (hN : n.toNatClampNeg = N) (hb : N * componentBytes .int ≤ 536870912) (hc : cells + 1 ≤ R.cells) (hs : slots + N ≤ R.slots) (hz : μ f0 i0 = fun _ => 0) (hdg : decode cc pc = .ok (.newarray .int, 2)) {pc1 : Nat} (hp : pc + 2 = pc1)
    (k : ∀ q, (∀ f i, (f, i) ∈ E → ad f i ≠ q) → J p l e R s m args below meth c cc nL own D (E ++ [(f0, i0)]) kd tc (gAd ad f0 i0 q) rh sa A H0 (cells + 1) (slots + N) Q μ pc1 lv (.ref q :: st)) : J p l e R s m args below meth c cc nL own D E kd tc ad rh sa A H0 cells slots Q μ pc lv (.int n :: st) := by
  subst hp
  intro H locs ls C hP hS hl
  have hwd : ∀ w ∈ BIG, w.before args s = true := C.2.2.2.2.1
  refine va_newa C.1 C.2.1 (atype := .int) (hwd _ harr) (ty := .int) rfl C.2.2.2.2.2.1.1 hP (C.2.2.2.2.2.2.1 μ) hS C.2.2.2.2.2.2.2 (a0 := (N, .inl (fun _ => 0))) (fun _ => rfl) hn hN hb hc hs hdg (fun q cA H1 hK1 hP1 hD1 hS1 => ?_)
  have hcA : cA = tc 0 := gTc0 C.2.2.2.2.2.1.1 (hK1.2 5 _ rfl).2
  subst hcA
  have hne : ∀ f i, (f, i) ∈ E → ¬ (f = f0 ∧ i = i0) := fun f i h e => hf (by rw [← e.1, ← e.2]; exact h)
  have hfr : ∀ f i, (f, i) ∈ E → ad f i ≠ q := fun f i h => g_fresh hD1 h
  refine k q hfr H1 locs ls ⟨C.1, C.2.1, C.2.2.1, C.2.2.2.1, hwd, C.2.2.2.2.2.1, fun μ' => gD_new gAd_at (fun f i h => gAd_ne (hne f i h)) hD1, C.2.2.2.2.2.2.2⟩ (gP_new (rh := rh) (μ := μ) gAd_at ?_ (fun f i h => ⟨gAd_ne (hne f i h), g_e_ad2 (fun k0 hk0 => hrh f i k0 h hk0)⟩) hP1) hS1 hl
  rw [g_arr hk, hz]
theorem J_newCk {n : Int32} {N f0 i0 : Nat} (hf : (f0, i0) ∉ E) (hk : kd f0 = .inr (.inl (1, N))) (hrh : ∀ f i k, (f, i) ∈ E → gRl kd f k → rh (μ f i) f i k ≠ some (f0, i0)) (harr : Cond.arrayClass .char ∈ BIG) (hn : ¬ n < 0) (hN : n.toNatClampNeg = N) (hb : N * componentBytes .char ≤ 536870912) (hc : cells + 1 ≤ R.cells) (hs : slots + N ≤ R.slots) (hz : μ f0 i0 = fun _ => 0) (hdg : decode cc pc = .ok (.newarray .char, 2)) {pc1 : Nat} (hp : pc + 2 = pc1)
    (k : ∀ q, (∀ f i, (f, i) ∈ E → ad f i ≠ q) → J p l e R s m args below meth c cc nL own D (E ++ [(f0, i0)]) kd tc (gAd ad f0 i0 q) rh sa A H0 (cells + 1) (slots + N) Q μ pc1 lv (.ref q :: st)) : J p l e R s m args below meth c cc nL own D E kd tc ad rh sa A H0 cells slots Q μ pc lv (.int n :: st) := by
  subst hp
  intro H locs ls C hP hS hl
  have hwd : ∀ w ∈ BIG, w.before args s = true := C.2.2.2.2.1
  refine va_newa C.1 C.2.1 (atype := .char) (hwd _ harr) (ty := .char) rfl C.2.2.2.2.2.1.1 hP (C.2.2.2.2.2.2.1 μ) hS C.2.2.2.2.2.2.2 (a0 := (N, .inl (fun _ => 0))) (fun _ => rfl) hn hN hb hc hs hdg (fun q cA H1 hK1 hP1 hD1 hS1 => ?_)
  have hcA : cA = tc 1 := gTc1 C.2.2.2.2.2.1.1 (hK1.2 5 _ rfl).2
  subst hcA
  have hne : ∀ f i, (f, i) ∈ E → ¬ (f = f0 ∧ i = i0) := fun f i h e => hf (by rw [← e.1, ← e.2]; exact h)
  have hfr : ∀ f i, (f, i) ∈ E → ad f i ≠ q := fun f i h => g_fresh hD1 h
  refine k q hfr H1 locs ls ⟨C.1, C.2.1, C.2.2.1, C.2.2.2.1, hwd, C.2.2.2.2.2.1, fun μ' => gD_new gAd_at (fun f i h => gAd_ne (hne f i h)) hD1, C.2.2.2.2.2.2.2⟩ (gP_new (rh := rh) (μ := μ) gAd_at ?_ (fun f i h => ⟨gAd_ne (hne f i h), g_e_ad2 (fun k0 hk0 => hrh f i k0 h hk0)⟩) hP1) hS1 hl
  rw [g_arr hk, hz]
theorem J_newQ2k {n : Int32} {N f0 i0 idx : Nat} (hf : (f0, i0) ∉ E) (hk : kd f0 = .inr (.inr (2, N))) (hrh : ∀ f i k, (f, i) ∈ E → gRl kd f k → rh (μ f i) f i k ≠ some (f0, i0)) (hrn : ∀ k, rh (μ f0 i0) f0 i0 k = none) (hcl : Cond.classLink own idx RX4 ∈ BIG) (hn : ¬ n < 0) (hN : n.toNatClampNeg = N) (hb : N * 4 ≤ 536870912) (hc : cells + 1 ≤ R.cells) (hs : slots + N ≤ R.slots) (hdg : decode cc pc = .ok (.anewarray idx, 3)) {pc1 : Nat} (hp : pc + 3 = pc1)
    (k : ∀ q, (∀ f i, (f, i) ∈ E → ad f i ≠ q) → J p l e R s m args below meth c cc nL own D (E ++ [(f0, i0)]) kd tc (gAd ad f0 i0 q) rh sa A H0 (cells + 1) (slots + N) Q μ pc1 lv (.ref q :: st)) : J p l e R s m args below meth c cc nL own D E kd tc ad rh sa A H0 cells slots Q μ pc lv (.int n :: st) := by
  subst hp
  intro H locs ls C hP hS hl
  have hwd : ∀ w ∈ BIG, w.before args s = true := C.2.2.2.2.1
  refine va_newq C.1 C.2.1 C.2.2.2.1 (hwd _ hcl) C.2.2.2.2.2.1.2.2.2.2.2.2.2.2.2.2.2.2.1 C.2.2.2.2.2.1.1 hP (C.2.2.2.2.2.2.1 μ) hS C.2.2.2.2.2.2.2 hn hN hb hc hs hdg (fun q cA H1 hK1 hP1 hD1 hS1 => ?_)
  have hcA : cA = tc 2 := gTc2 C.2.2.2.2.2.1.1 (hK1.2 5 _ rfl).2
  subst hcA
  have hne : ∀ f i, (f, i) ∈ E → ¬ (f = f0 ∧ i = i0) := fun f i h e => hf (by rw [← e.1, ← e.2]; exact h)
  have hfr : ∀ f i, (f, i) ∈ E → ad f i ≠ q := fun f i h => g_fresh hD1 h
  refine k q hfr H1 locs ls ⟨C.1, C.2.1, C.2.2.1, C.2.2.2.1, hwd, C.2.2.2.2.2.1, fun μ' => gD_new gAd_at (fun f i h => gAd_ne (hne f i h)) hD1, C.2.2.2.2.2.2.2⟩ (gP_new (rh := rh) (μ := μ) gAd_at ?_ (fun f i h => ⟨gAd_ne (hne f i h), g_e_ad2 (fun k0 hk0 => hrh f i k0 h hk0)⟩) hP1) hS1 hl
  rw [g_ars hk]
  simp only [hrn, Option.map_none]
theorem J_newQ3k {n : Int32} {N f0 i0 idx : Nat} (hf : (f0, i0) ∉ E) (hk : kd f0 = .inr (.inr (3, N))) (hrh : ∀ f i k, (f, i) ∈ E → gRl kd f k → rh (μ f i) f i k ≠ some (f0, i0)) (hrn : ∀ k, rh (μ f0 i0) f0 i0 k = none) (hcl : Cond.classLink own idx RX2 ∈ BIG) (hn : ¬ n < 0) (hN : n.toNatClampNeg = N) (hb : N * 4 ≤ 536870912) (hc : cells + 1 ≤ R.cells) (hs : slots + N ≤ R.slots) (hdg : decode cc pc = .ok (.anewarray idx, 3)) {pc1 : Nat} (hp : pc + 3 = pc1)
    (k : ∀ q, (∀ f i, (f, i) ∈ E → ad f i ≠ q) → J p l e R s m args below meth c cc nL own D (E ++ [(f0, i0)]) kd tc (gAd ad f0 i0 q) rh sa A H0 (cells + 1) (slots + N) Q μ pc1 lv (.ref q :: st)) : J p l e R s m args below meth c cc nL own D E kd tc ad rh sa A H0 cells slots Q μ pc lv (.int n :: st) := by
  subst hp
  intro H locs ls C hP hS hl
  have hwd : ∀ w ∈ BIG, w.before args s = true := C.2.2.2.2.1
  refine va_newq C.1 C.2.1 C.2.2.2.1 (hwd _ hcl) C.2.2.2.2.2.1.2.2.2.2.2.2.2.2.2.2.2.2.2 C.2.2.2.2.2.1.1 hP (C.2.2.2.2.2.2.1 μ) hS C.2.2.2.2.2.2.2 hn hN hb hc hs hdg (fun q cA H1 hK1 hP1 hD1 hS1 => ?_)
  have hcA : cA = tc 3 := gTc3 C.2.2.2.2.2.1.1 (hK1.2 5 _ rfl).2
  subst hcA
  have hne : ∀ f i, (f, i) ∈ E → ¬ (f = f0 ∧ i = i0) := fun f i h e => hf (by rw [← e.1, ← e.2]; exact h)
  have hfr : ∀ f i, (f, i) ∈ E → ad f i ≠ q := fun f i h => g_fresh hD1 h
  refine k q hfr H1 locs ls ⟨C.1, C.2.1, C.2.2.1, C.2.2.2.1, hwd, C.2.2.2.2.2.1, fun μ' => gD_new gAd_at (fun f i h => gAd_ne (hne f i h)) hD1, C.2.2.2.2.2.2.2⟩ (gP_new (rh := rh) (μ := μ) gAd_at ?_ (fun f i h => ⟨gAd_ne (hne f i h), g_e_ad2 (fun k0 hk0 => hrh f i k0 h hk0)⟩) hP1) hS1 hl
  rw [g_ars hk]
  simp only [hrn, Option.map_none]
theorem J_newOk {N ci f0 i0 idx : Nat} {refs : List Nat} {Cn : String} {T : u_T} (hf : (f0, i0) ∉ E) (hk : kd f0 = .inl (ci, N, refs)) (hcc : vwCl[ci]? = some (Cn, T, N)) (hin : ∀ w ∈ u_ws Cn T N, w ∈ BIG) (ty0 : Nat → FieldType) (hty : ∀ k, k < N → parseFieldDescriptor (T k).2.2.1 = some (ty0 k)) (hdf : ∀ k, k < N → defaultValue (ty0 k) = if refs.contains k then .null else .int 0) (hrh : ∀ f i k, (f, i) ∈ E → gRl kd f k → rh (μ f i) f i k ≠ some (f0, i0)) (hrn : ∀ k, rh (fun _ => 0) f0 i0 k = none) (hz : μ f0 i0 = fun _ => 0) (hcl : Cond.classLink own idx Cn ∈ BIG) (hinst : Cond.instantiable Cn N ∈ BIG) (hini : Cond.initialized Cn ∈ BIG) (hc : cells + 1 ≤ R.cells) (hs : slots + N ≤ R.slots) (hdg : decode cc pc = .ok (.new idx, 3)) {pc1 : Nat} (hp : pc + 3 = pc1)
    (k : ∀ q, (∀ f i, (f, i) ∈ E → ad f i ≠ q) → J p l e R s m args below meth c cc nL own D (E ++ [(f0, i0)]) kd tc (gAd ad f0 i0 q) rh sa A H0 (cells + 1) (slots + N) Q μ pc1 lv (.ref q :: st)) : J p l e R s m args below meth c cc nL own D E kd tc ad rh sa A H0 cells slots Q μ pc lv st := by
  subst hp
  intro H locs ls C hP hS hl
  have hwd : ∀ w ∈ BIG, w.before args s = true := C.2.2.2.2.1
  refine va_new C.1 C.2.1 hwd hin ty0 hty C.2.2.2.1 (hwd _ hcl) (hwd _ hinst) (hwd _ hini) C.2.2.2.2.2.1.1 hP (C.2.2.2.2.2.2.1 μ) hS C.2.2.2.2.2.2.2 hcc (fs := (List.range N).map (fun k => if refs.contains k then .null else .int 0)) (fun j hj => ?_) hc hs hdg (fun q H1 hP1 hD1 hS1 => ?_)
  · rw [hdf j hj]
    simp [vp_V, hj]
  have hne : ∀ f i, (f, i) ∈ E → ¬ (f = f0 ∧ i = i0) := fun f i h e => hf (by rw [← e.1, ← e.2]; exact h)
  have hfr : ∀ f i, (f, i) ∈ E → ad f i ≠ q := fun f i h => g_fresh hD1 h
  refine k q hfr H1 locs ls ⟨C.1, C.2.1, C.2.2.1, C.2.2.2.1, hwd, C.2.2.2.2.2.1, fun μ' => gD_new gAd_at (fun f i h => gAd_ne (hne f i h)) hD1, C.2.2.2.2.2.2.2⟩ (gP_new (rh := rh) (μ := μ) gAd_at ?_ (fun f i h => ⟨gAd_ne (hne f i h), g_e_ad2 (fun k0 hk0 => hrh f i k0 h hk0)⟩) hP1) hS1 hl
  rw [g_fld hk, hz]
  congr 2
  apply List.map_congr_left
  intro k0 _
  unfold g_v g_va
  rw [hrn]
  rfl
theorem J_putRF {f i ci n idx f' i' : Nat} {refs : List Nat} {Cn ref : String} {T : u_T} {v : Int32} (hE : (f, i) ∈ E) (hk : kd f = .inl (ci, n, refs)) (hc : vwCl[ci]? = some (Cn, T, n)) (hin : ∀ w ∈ u_ws Cn T n, w ∈ BIG) (ty0 : Nat → FieldType) (hty : ∀ k, k < n → parseFieldDescriptor (T k).2.2.1 = some (ty0 k)) (hnm : ∀ a, a < n → ∀ b, b < n → a ≠ b → (T a).2.1 ≠ (T b).2.1) (k0 : Nat) (hlt : k0 < n) (hr : refs.contains k0 = true) (hrl : ∀ (row : Nat → Int32) (j : Nat), refs.contains j = true → rh (upd row k0 v) f i j = if j = k0 then some (f', i') else rh row f i j) (hw : Cond.fieldLink own idx ref (T k0).2.1 (T k0).2.2.1 ∈ BIG) (href : ref = (T k0).1) (hfin : (T k0).2.2.2 = true) (hin2 : meth.name = "<init>") (hdecl : (T k0).1 = own) (hn : narrow (ty0 k0) (.ref (ad f' i')) = .ref (ad f' i')) (hfit : fits (ty0 k0) (.ref (ad f' i')) = true) (hdg : decode cc pc = .ok (.putfield idx, 3)) {pc1 : Nat} (hp : pc + 3 = pc1) (k : J p l e R s m args below meth c cc nL own D E kd tc ad rh sa A H0 cells slots Q (w3 μ f i k0 v) pc1 lv st) : J p l e R s m args below meth c cc nL own D E kd tc ad rh sa A H0 cells slots Q μ pc lv (.ref (ad f' i') :: .ref (ad f i) :: st) := fun H locs ls C hP hS hl => by
  subst hp
  obtain ⟨q0, hE0, hq⟩ := g_at (kd := kd) (tc := tc) (ad := ad) (rh := rh) (μ := μ) hE
  have hq' := hq
  rw [g_fld hk] at hq'
  refine va_putF C.1 C.2.1 C.2.2.2.2.1 hin ty0 hty hnm C.2.2.2.1 C.2.2.2.2.2.1.1 hP (C.2.2.2.2.2.2.1 μ) hS q0 hq' hc k0 hlt (C.2.2.2.2.1 _ hw) (ref := ref) (fun x hx => by rw [href]; exact hx) hfin hin2 hdecl (hty k0 hlt) hn hfit (by simpa using hlt) hdg (fun H1 locs1 h1 h2 h3 => ?_)
  refine k H1 locs1 ls C ?_ h3 hl
  have e : (Sum.inr (ci, ((List.range n).map (g_v ad rh refs (μ f i) f i)).set k0 (.ref (ad f' i'))) : va_E) = g_e kd tc ad rh (w3 μ f i k0 v f i) f i := by
    rw [g_fld hk, g_rset, w3_row]
    show (Sum.inr _ : va_E) = _
    congr 2
    apply List.map_congr_left
    intro j hj
    by_cases hjk : j = k0
    · subst hjk
      rw [if_pos rfl]
      unfold g_v
      rw [if_pos hr, hrl _ _ hr, if_pos rfl]
      rfl
    · rw [if_neg hjk]
      unfold g_v
      by_cases hrj : refs.contains j = true
      · rw [if_pos hrj, if_pos hrj, hrl _ _ hrj, if_neg hjk]
      · rw [if_neg hrj, if_neg hrj]
        simp [upd, hjk]
  have e2 := g_set (kd := kd) (tc := tc) (rh := rh) (μ' := w3 μ f i k0 v) (C.2.2.2.2.2.2.1 μ) hE0 (fun f' i' hne => w3_ne hne)
  rw [← e] at e2
  rw [← e2]
  exact h1
end GN2
