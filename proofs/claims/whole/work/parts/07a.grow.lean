/-! worlds that grow, and worlds that are equal cell by cell -/
section GR
variable {D : va_G} {cl : List vw_C} {H : Heap} {E E1 : List (Nat × Nat)} {kd : Nat → gKd} {tc : Nat → ClassId} {ad ad1 : Nat → Nat → Nat} {rh rh1 : gRh} {μ μ1 : gM}
theorem gP_sub {ws ws1 : va_W} (h : ∀ x ∈ ws1, x ∈ ws) (hP : va_P D cl ws H) : va_P D cl ws1 H := fun k q hk => by
  obtain ⟨i, hi⟩ := List.getElem?_of_mem (h q (List.mem_of_getElem? hk))
  exact hP i q hi
theorem g_w_mem {x : Nat × va_E} : x ∈ g_w E kd tc ad rh μ ↔ ∃ f i, (f, i) ∈ E ∧ x = (ad f i, g_e kd tc ad rh (μ f i) f i) := by
  unfold g_w
  rw [List.mem_map]
  constructor
  · rintro ⟨⟨f, i⟩, h1, h2⟩
    exact ⟨f, i, h1, h2.symm⟩
  · rintro ⟨f, i, h1, h2⟩
    exact ⟨(f, i), h1, h2.symm⟩
/-- the same cells, told by another picture -/
theorem gP_conv (h : ∀ f i, (f, i) ∈ E1 → (f, i) ∈ E ∧ ad1 f i = ad f i ∧ g_e kd tc ad1 rh1 (μ1 f i) f i = g_e kd tc ad rh (μ f i) f i) (hP : va_P D cl (g_w E kd tc ad rh μ) H) : va_P D cl (g_w E1 kd tc ad1 rh1 μ1) H := by
  refine gP_sub (fun x hx => ?_) hP
  obtain ⟨f, i, h1, rfl⟩ := g_w_mem.mp hx
  obtain ⟨h2, h3, h4⟩ := h f i h1
  exact g_w_mem.mpr ⟨f, i, h2, by rw [h3, h4]⟩
/-- one more cell -/
theorem gP_new {q f0 i0 : Nat} {ent : va_E} (hq : ad1 f0 i0 = q) (he : g_e kd tc ad1 rh1 (μ1 f0 i0) f0 i0 = ent) (h : ∀ f i, (f, i) ∈ E → ad1 f i = ad f i ∧ g_e kd tc ad1 rh1 (μ1 f i) f i = g_e kd tc ad rh (μ f i) f i) (hP : va_P D cl (g_w E kd tc ad rh μ ++ [(q, ent)]) H) : va_P D cl (g_w (E ++ [(f0, i0)]) kd tc ad1 rh1 μ1) H := by
  refine gP_sub (fun x hx => ?_) hP
  obtain ⟨f, i, h1, rfl⟩ := g_w_mem.mp hx
  rw [List.mem_append]
  rcases List.mem_append.mp h1 with h2 | h2
  · obtain ⟨h3, h4⟩ := h f i h2
    exact Or.inl (g_w_mem.mpr ⟨f, i, h2, by rw [h3, h4]⟩)
  · obtain ⟨rfl, rfl⟩ := Prod.mk.inj (List.mem_singleton.mp h2)
    exact Or.inr (List.mem_singleton.mpr (by rw [hq, he]))
/-- the new cell's place is none of the old ones -/
theorem g_fresh {A : Nat → Prop} {q : Nat} {ent : va_E} (hD : va_D A (g_w E kd tc ad rh μ ++ [(q, ent)])) {f i : Nat} (h : (f, i) ∈ E) : ad f i ≠ q := by
  intro e
  obtain ⟨k, h1, h2⟩ := g_at (kd := kd) (tc := tc) (ad := ad) (rh := rh) (μ := μ) h
  have hk : k < (g_w E kd tc ad rh μ).length := (List.getElem?_eq_some_iff.mp h2).1
  have h3 := hD.1 k (g_w E kd tc ad rh μ).length _ _ (by rw [List.getElem?_append_left hk]; exact h2) (by rw [List.getElem?_append_right (Nat.le_refl _), Nat.sub_self]; rfl) e
  omega
theorem gTc0 {s : State} {cA : ClassId} (hK : va_K D cl (gT tc) s) (h : s.vm.findClass ("[" ++ FieldType.int.toString) = some cA) : cA = tc 0 :=
  Option.some.inj (h.symm.trans (hK.2 0 _ rfl).2)
theorem gTc1 {s : State} {cA : ClassId} (hK : va_K D cl (gT tc) s) (h : s.vm.findClass ("[" ++ FieldType.char.toString) = some cA) : cA = tc 1 :=
  Option.some.inj (h.symm.trans (hK.2 1 _ rfl).2)
theorem gTc2 {s : State} {cA : ClassId} (hK : va_K D cl (gT tc) s) (h : va_RA s cA (.object RX4)) : cA = tc 2 := by
  obtain ⟨-, -, -, -, -, h1⟩ := h
  obtain ⟨-, -, -, -, -, h2⟩ := (hK.2 2 _ rfl).2
  exact Option.some.inj (h1.symm.trans h2)
theorem gTc3 {s : State} {cA : ClassId} (hK : va_K D cl (gT tc) s) (h : va_RA s cA (.object RX2)) : cA = tc 3 := by
  obtain ⟨-, -, -, -, -, h1⟩ := h
  obtain ⟨-, -, -, -, -, h2⟩ := (hK.2 3 _ rfl).2
  exact Option.some.inj (h1.symm.trans h2)
theorem gD_fst {A : Nat → Prop} {ws ws1 : va_W} (e : ws1.map (·.1) = ws.map (·.1)) (h : va_D A ws) : va_D A ws1 := by
  have key : ∀ (k : Nat) (q : Nat × va_E), ws1[k]? = some q → ∃ q', ws[k]? = some q' ∧ q'.1 = q.1 := by
    intro k q hk
    have h1 : (ws1.map (·.1))[k]? = some q.1 := by rw [List.getElem?_map, hk]; rfl
    rw [e, List.getElem?_map] at h1
    cases h2 : ws[k]? with
    | none => rw [h2] at h1; cases h1
    | some q' => rw [h2] at h1; exact ⟨q', rfl, Option.some.inj h1⟩
  refine ⟨fun i j p q hi hj hpq => ?_, fun k q hk => ?_⟩
  · obtain ⟨p', h1, h2⟩ := key i p hi
    obtain ⟨q', h3, h4⟩ := key j q hj
    exact h.1 i j p' q' h1 h3 (by rw [h2, h4]; exact hpq)
  · obtain ⟨q', h1, h2⟩ := key k q hk
    rw [← h2]; exact h.2 k q' h1
theorem gD_new {A : Nat → Prop} {q f0 i0 : Nat} {ent : va_E} (hq : ad1 f0 i0 = q) (h : ∀ f i, (f, i) ∈ E → ad1 f i = ad f i) (hD : va_D A (g_w E kd tc ad rh μ ++ [(q, ent)])) : va_D A (g_w (E ++ [(f0, i0)]) kd tc ad1 rh1 μ1) := by
  refine gD_fst ?_ hD
  unfold g_w
  simp only [List.map_append, List.map_map, List.map_cons, List.map_nil, hq]
  congr 1
  apply List.map_congr_left
  rintro ⟨f, i⟩ hfi
  exact h f i hfi
/-- the places, one more told -/
def gAd (ad : Nat → Nat → Nat) (f0 i0 q : Nat) : Nat → Nat → Nat := fun f i => if f = f0 ∧ i = i0 then q else ad f i
theorem gAd_at {f0 i0 q : Nat} : gAd ad f0 i0 q f0 i0 = q := by unfold gAd; rw [if_pos ⟨rfl, rfl⟩]
theorem gAd_ne {f0 i0 q f i : Nat} (h : ¬ (f = f0 ∧ i = i0)) : gAd ad f0 i0 q f i = ad f i := by unfold gAd; rw [if_neg h]
/-- a cell that points to no new one reads the same -/
theorem g_e_ad {f0 i0 q f i : Nat} {row : Nat → Int32} (h : ∀ k, rh row f i k ≠ some (f0, i0)) : g_e kd tc (gAd ad f0 i0 q) rh row f i = g_e kd tc ad rh row f i := by
  have key : ∀ k, (rh row f i k).map (fun z => gAd ad f0 i0 q z.1 z.2) = (rh row f i k).map (fun z => ad z.1 z.2) := by
    intro k
    cases hz : rh row f i k with
    | none => rfl
    | some z =>
      have hne : ¬ (z.1 = f0 ∧ z.2 = i0) := fun e => h k (by rw [hz, ← e.1, ← e.2])
      exact congrArg some (gAd_ne hne)
  unfold g_e
  cases kd f with
  | inl z =>
    show Sum.inr _ = Sum.inr _
    congr 2
    apply List.map_congr_left
    intro k _
    unfold g_v g_va
    rw [key k]
  | inr z =>
    cases z with
    | inl z => rfl
    | inr z =>
      show Sum.inl _ = Sum.inl _
      simp only [key]
/-- one cell set, told by another picture -/
theorem g_setR {f i q0 : Nat} {ent : va_E} (hq : E[q0]? = some (f, i)) (he : ent = g_e kd tc ad rh1 (μ1 f i) f i) (ho : ∀ f1 i1, (f1, i1) ∈ E → ¬ (f1 = f ∧ i1 = i) → g_e kd tc ad rh1 (μ1 f1 i1) f1 i1 = g_e kd tc ad rh (μ f1 i1) f1 i1) (hP : va_P D cl ((g_w E kd tc ad rh μ).set q0 (ad f i, ent)) H) : va_P D cl (g_w E kd tc ad rh1 μ1) H := by
  refine gP_sub (fun x hx => ?_) hP
  obtain ⟨f1, i1, h1, rfl⟩ := g_w_mem.mp hx
  by_cases hc : f1 = f ∧ i1 = i
  · obtain ⟨rfl, rfl⟩ := hc
    have hl : q0 < (g_w E kd tc ad rh μ).length := by
      have := (List.getElem?_eq_some_iff.mp hq).1
      simpa [g_w] using this
    refine List.mem_of_getElem? (i := q0) ?_
    rw [List.getElem?_set_self hl, he]
  · obtain ⟨k1, h2, h3⟩ := g_at (kd := kd) (tc := tc) (ad := ad) (rh := rh) (μ := μ) h1
    have hne : q0 ≠ k1 := by
      rintro rfl
      rw [hq] at h2
      obtain ⟨e1, e2⟩ := Prod.mk.inj (Option.some.inj h2)
      exact hc ⟨e1.symm, e2.symm⟩
    refine List.mem_of_getElem? (i := k1) ?_
    rw [List.getElem?_set_ne hne, h3, ho f1 i1 h1 hc]
/-- the pointers, one more told -/
def gRs (rh : gRh) (f i k : Nat) (z : Nat × Nat) : gRh := fun row f1 i1 k1 => if f1 = f ∧ i1 = i ∧ k1 = k then some z else rh row f1 i1 k1
theorem gRs_at {f i k : Nat} {z : Nat × Nat} {row : Nat → Int32} : gRs rh f i k z row f i k = some z := by unfold gRs; rw [if_pos ⟨rfl, rfl, rfl⟩]
theorem gRs_k {f i k k1 f1 i1 : Nat} {z : Nat × Nat} {row : Nat → Int32} (h : k1 ≠ k) : gRs rh f i k z row f1 i1 k1 = rh row f1 i1 k1 := by unfold gRs; rw [if_neg (fun e => h e.2.2)]
theorem gRs_ne {f i k f1 i1 : Nat} {z : Nat × Nat} {row : Nat → Int32} (h : ¬ (f1 = f ∧ i1 = i)) : g_e kd tc ad (gRs rh f i k z) row f1 i1 = g_e kd tc ad rh row f1 i1 := by
  have key : ∀ k1, gRs rh f i k z row f1 i1 k1 = rh row f1 i1 k1 := fun k1 => by unfold gRs; rw [if_neg (fun e => h ⟨e.1, e.2.1⟩)]
  unfold g_e g_v
  simp only [key]
end GR
section GN
variable {p : Program} {l : Launch} {e : Env} {R : Room} {s : State} {m : MethodId} {args : Array Value} {below : List Frame} {meth : Method} {c : Code} {cc : ByteArray} {nL : Nat} {own : String} {D : va_G} {E : List (Nat × Nat)} {kd : Nat → gKd} {tc : Nat → ClassId} {ad : Nat → Nat → Nat} {rh : gRh} {sa : Nat → Nat} {A : Nat → Prop} {H0 : Heap} {cells slots : Nat} {Q : State → Prop} {μ : gM} {pc : Nat} {lv : List (Nat × Value)} {st : List Value}
theorem J_newI {n : Int32} {N f0 i0 : Nat} (hf : (f0, i0) ∉ E) (hk : kd f0 = .inr (.inl (0, N))) (hrh : ∀ f i row k, (f, i) ∈ E → rh row f i k ≠ some (f0, i0)) (harr : Cond.arrayClass .int ∈ BIG) (hn : ¬ n < 0) (hN : n.toNatClampNeg = N) (hb : N * componentBytes .int ≤ 536870912) (hc : cells + 1 ≤ R.cells) (hs : slots + N ≤ R.slots) (hz : μ f0 i0 = fun _ => 0) (hdg : decode cc pc = .ok (.newarray .int, 2)) {pc1 : Nat} (hp : pc + 2 = pc1)
    (k : ∀ q, (∀ f i, (f, i) ∈ E → ad f i ≠ q) → J p l e R s m args below meth c cc nL own D (E ++ [(f0, i0)]) kd tc (gAd ad f0 i0 q) rh sa A H0 (cells + 1) (slots + N) Q μ pc1 lv (.ref q :: st)) : J p l e R s m args below meth c cc nL own D E kd tc ad rh sa A H0 cells slots Q μ pc lv (.int n :: st) := by
  subst hp
  intro H locs ls C hP hS hl
  have hwd : ∀ w ∈ BIG, w.before args s = true := C.2.2.2.2.1
  refine va_newa C.1 C.2.1 (atype := .int) (hwd _ harr) (ty := .int) rfl C.2.2.2.2.2.1.1 hP (C.2.2.2.2.2.2.1 μ) hS C.2.2.2.2.2.2.2 (a0 := (N, .inl (fun _ => 0))) (fun _ => rfl) hn hN hb hc hs hdg (fun q cA H1 hK1 hP1 hD1 hS1 => ?_)
  have hcA : cA = tc 0 := gTc0 C.2.2.2.2.2.1.1 (hK1.2 5 _ rfl).2
  subst hcA
  have hne : ∀ f i, (f, i) ∈ E → ¬ (f = f0 ∧ i = i0) := fun f i h e => hf (by rw [← e.1, ← e.2]; exact h)
  have hfr : ∀ f i, (f, i) ∈ E → ad f i ≠ q := fun f i h => g_fresh hD1 h
  refine k q hfr H1 locs ls ⟨C.1, C.2.1, C.2.2.1, C.2.2.2.1, hwd, C.2.2.2.2.2.1, fun μ' => gD_new gAd_at (fun f i h => gAd_ne (hne f i h)) hD1, C.2.2.2.2.2.2.2⟩ (gP_new (rh := rh) (μ := μ) gAd_at ?_ (fun f i h => ⟨gAd_ne (hne f i h), g_e_ad (fun k0 => hrh f i _ k0 h)⟩) hP1) hS1 hl
  rw [g_arr hk, hz]
theorem J_newC {n : Int32} {N f0 i0 : Nat} (hf : (f0, i0) ∉ E) (hk : kd f0 = .inr (.inl (1, N))) (hrh : ∀ f i row k, (f, i) ∈ E → rh row f i k ≠ some (f0, i0)) (harr : Cond.arrayClass .char ∈ BIG) (hn : ¬ n < 0) (hN : n.toNatClampNeg = N) (hb : N * componentBytes .char ≤ 536870912) (hc : cells + 1 ≤ R.cells) (hs : slots + N ≤ R.slots) (hz : μ f0 i0 = fun _ => 0) (hdg : decode cc pc = .ok (.newarray .char, 2)) {pc1 : Nat} (hp : pc + 2 = pc1)
    (k : ∀ q, (∀ f i, (f, i) ∈ E → ad f i ≠ q) → J p l e R s m args below meth c cc nL own D (E ++ [(f0, i0)]) kd tc (gAd ad f0 i0 q) rh sa A H0 (cells + 1) (slots + N) Q μ pc1 lv (.ref q :: st)) : J p l e R s m args below meth c cc nL own D E kd tc ad rh sa A H0 cells slots Q μ pc lv (.int n :: st) := by
  subst hp
  intro H locs ls C hP hS hl
  have hwd : ∀ w ∈ BIG, w.before args s = true := C.2.2.2.2.1
  refine va_newa C.1 C.2.1 (atype := .char) (hwd _ harr) (ty := .char) rfl C.2.2.2.2.2.1.1 hP (C.2.2.2.2.2.2.1 μ) hS C.2.2.2.2.2.2.2 (a0 := (N, .inl (fun _ => 0))) (fun _ => rfl) hn hN hb hc hs hdg (fun q cA H1 hK1 hP1 hD1 hS1 => ?_)
  have hcA : cA = tc 1 := gTc1 C.2.2.2.2.2.1.1 (hK1.2 5 _ rfl).2
  subst hcA
  have hne : ∀ f i, (f, i) ∈ E → ¬ (f = f0 ∧ i = i0) := fun f i h e => hf (by rw [← e.1, ← e.2]; exact h)
  have hfr : ∀ f i, (f, i) ∈ E → ad f i ≠ q := fun f i h => g_fresh hD1 h
  refine k q hfr H1 locs ls ⟨C.1, C.2.1, C.2.2.1, C.2.2.2.1, hwd, C.2.2.2.2.2.1, fun μ' => gD_new gAd_at (fun f i h => gAd_ne (hne f i h)) hD1, C.2.2.2.2.2.2.2⟩ (gP_new (rh := rh) (μ := μ) gAd_at ?_ (fun f i h => ⟨gAd_ne (hne f i h), g_e_ad (fun k0 => hrh f i _ k0 h)⟩) hP1) hS1 hl
  rw [g_arr hk, hz]
theorem J_newQ2 {n : Int32} {N f0 i0 idx : Nat} (hf : (f0, i0) ∉ E) (hk : kd f0 = .inr (.inr (2, N))) (hrh : ∀ f i row k, (f, i) ∈ E → rh row f i k ≠ some (f0, i0)) (hrn : ∀ row k, rh row f0 i0 k = none) (hcl : Cond.classLink own idx RX4 ∈ BIG) (hn : ¬ n < 0) (hN : n.toNatClampNeg = N) (hb : N * 4 ≤ 536870912) (hc : cells + 1 ≤ R.cells) (hs : slots + N ≤ R.slots) (hdg : decode cc pc = .ok (.anewarray idx, 3)) {pc1 : Nat} (hp : pc + 3 = pc1)
    (k : ∀ q, (∀ f i, (f, i) ∈ E → ad f i ≠ q) → J p l e R s m args below meth c cc nL own D (E ++ [(f0, i0)]) kd tc (gAd ad f0 i0 q) rh sa A H0 (cells + 1) (slots + N) Q μ pc1 lv (.ref q :: st)) : J p l e R s m args below meth c cc nL own D E kd tc ad rh sa A H0 cells slots Q μ pc lv (.int n :: st) := by
  subst hp
  intro H locs ls C hP hS hl
  have hwd : ∀ w ∈ BIG, w.before args s = true := C.2.2.2.2.1
  refine va_newq C.1 C.2.1 C.2.2.2.1 (hwd _ hcl) C.2.2.2.2.2.1.2.2.2.2.2.2.2.2.2.2.2.2.1 C.2.2.2.2.2.1.1 hP (C.2.2.2.2.2.2.1 μ) hS C.2.2.2.2.2.2.2 hn hN hb hc hs hdg (fun q cA H1 hK1 hP1 hD1 hS1 => ?_)
  have hcA : cA = tc 2 := gTc2 C.2.2.2.2.2.1.1 (hK1.2 5 _ rfl).2
  subst hcA
  have hne : ∀ f i, (f, i) ∈ E → ¬ (f = f0 ∧ i = i0) := fun f i h e => hf (by rw [← e.1, ← e.2]; exact h)
  have hfr : ∀ f i, (f, i) ∈ E → ad f i ≠ q := fun f i h => g_fresh hD1 h
  refine k q hfr H1 locs ls ⟨C.1, C.2.1, C.2.2.1, C.2.2.2.1, hwd, C.2.2.2.2.2.1, fun μ' => gD_new gAd_at (fun f i h => gAd_ne (hne f i h)) hD1, C.2.2.2.2.2.2.2⟩ (gP_new (rh := rh) (μ := μ) gAd_at ?_ (fun f i h => ⟨gAd_ne (hne f i h), g_e_ad (fun k0 => hrh f i _ k0 h)⟩) hP1) hS1 hl
  rw [g_ars hk]
  simp only [hrn, Option.map_none]
theorem J_newQ3 {n : Int32} {N f0 i0 idx : Nat} (hf : (f0, i0) ∉ E) (hk : kd f0 = .inr (.inr (3, N))) (hrh : ∀ f i row k, (f, i) ∈ E → rh row f i k ≠ some (f0, i0)) (hrn : ∀ row k, rh row f0 i0 k = none) (hcl : Cond.classLink own idx RX2 ∈ BIG) (hn : ¬ n < 0) (hN : n.toNatClampNeg = N) (hb : N * 4 ≤ 536870912) (hc : cells + 1 ≤ R.cells) (hs : slots + N ≤ R.slots) (hdg : decode cc pc = .ok (.anewarray idx, 3)) {pc1 : Nat} (hp : pc + 3 = pc1)
    (k : ∀ q, (∀ f i, (f, i) ∈ E → ad f i ≠ q) → J p l e R s m args below meth c cc nL own D (E ++ [(f0, i0)]) kd tc (gAd ad f0 i0 q) rh sa A H0 (cells + 1) (slots + N) Q μ pc1 lv (.ref q :: st)) : J p l e R s m args below meth c cc nL own D E kd tc ad rh sa A H0 cells slots Q μ pc lv (.int n :: st) := by
  subst hp
  intro H locs ls C hP hS hl
  have hwd : ∀ w ∈ BIG, w.before args s = true := C.2.2.2.2.1
  refine va_newq C.1 C.2.1 C.2.2.2.1 (hwd _ hcl) C.2.2.2.2.2.1.2.2.2.2.2.2.2.2.2.2.2.2.2 C.2.2.2.2.2.1.1 hP (C.2.2.2.2.2.2.1 μ) hS C.2.2.2.2.2.2.2 hn hN hb hc hs hdg (fun q cA H1 hK1 hP1 hD1 hS1 => ?_)
  have hcA : cA = tc 3 := gTc3 C.2.2.2.2.2.1.1 (hK1.2 5 _ rfl).2
  subst hcA
  have hne : ∀ f i, (f, i) ∈ E → ¬ (f = f0 ∧ i = i0) := fun f i h e => hf (by rw [← e.1, ← e.2]; exact h)
  have hfr : ∀ f i, (f, i) ∈ E → ad f i ≠ q := fun f i h => g_fresh hD1 h
  refine k q hfr H1 locs ls ⟨C.1, C.2.1, C.2.2.1, C.2.2.2.1, hwd, C.2.2.2.2.2.1, fun μ' => gD_new gAd_at (fun f i h => gAd_ne (hne f i h)) hD1, C.2.2.2.2.2.2.2⟩ (gP_new (rh := rh) (μ := μ) gAd_at ?_ (fun f i h => ⟨gAd_ne (hne f i h), g_e_ad (fun k0 => hrh f i _ k0 h)⟩) hP1) hS1 hl
  rw [g_ars hk]
  simp only [hrn, Option.map_none]
theorem J_newO {N ci f0 i0 idx : Nat} {refs : List Nat} {Cn : String} {T : u_T} (hf : (f0, i0) ∉ E) (hk : kd f0 = .inl (ci, N, refs)) (hcc : vwCl[ci]? = some (Cn, T, N)) (hin : ∀ w ∈ u_ws Cn T N, w ∈ BIG) (ty0 : Nat → FieldType) (hty : ∀ k, k < N → parseFieldDescriptor (T k).2.2.1 = some (ty0 k)) (hdf : ∀ k, k < N → defaultValue (ty0 k) = if refs.contains k then .null else .int 0) (hrh : ∀ f i row k, (f, i) ∈ E → rh row f i k ≠ some (f0, i0)) (hrn : ∀ row k, rh row f0 i0 k = none) (hz : μ f0 i0 = fun _ => 0) (hcl : Cond.classLink own idx Cn ∈ BIG) (hinst : Cond.instantiable Cn N ∈ BIG) (hini : Cond.initialized Cn ∈ BIG) (hc : cells + 1 ≤ R.cells) (hs : slots + N ≤ R.slots) (hdg : decode cc pc = .ok (.new idx, 3)) {pc1 : Nat} (hp : pc + 3 = pc1)
    (k : ∀ q, (∀ f i, (f, i) ∈ E → ad f i ≠ q) → J p l e R s m args below meth c cc nL own D (E ++ [(f0, i0)]) kd tc (gAd ad f0 i0 q) rh sa A H0 (cells + 1) (slots + N) Q μ pc1 lv (.ref q :: st)) : J p l e R s m args below meth c cc nL own D E kd tc ad rh sa A H0 cells slots Q μ pc lv st := by
  subst hp
  intro H locs ls C hP hS hl
  have hwd : ∀ w ∈ BIG, w.before args s = true := C.2.2.2.2.1
  refine va_new C.1 C.2.1 hwd hin ty0 hty C.2.2.2.1 (hwd _ hcl) (hwd _ hinst) (hwd _ hini) C.2.2.2.2.2.1.1 hP (C.2.2.2.2.2.2.1 μ) hS C.2.2.2.2.2.2.2 hcc (fs := (List.range N).map (fun k => if refs.contains k then .null else .int 0)) (fun j hj => ?_) hc hs hdg (fun q H1 hP1 hD1 hS1 => ?_)
  · rw [hdf j hj]
    simp [vp_V, hj]
  have hne : ∀ f i, (f, i) ∈ E → ¬ (f = f0 ∧ i = i0) := fun f i h e => hf (by rw [← e.1, ← e.2]; exact h)
  have hfr : ∀ f i, (f, i) ∈ E → ad f i ≠ q := fun f i h => g_fresh hD1 h
  refine k q hfr H1 locs ls ⟨C.1, C.2.1, C.2.2.1, C.2.2.2.1, hwd, C.2.2.2.2.2.1, fun μ' => gD_new gAd_at (fun f i h => gAd_ne (hne f i h)) hD1, C.2.2.2.2.2.2.2⟩ (gP_new (rh := rh) (μ := μ) gAd_at ?_ (fun f i h => ⟨gAd_ne (hne f i h), g_e_ad (fun k0 => hrh f i _ k0 h)⟩) hP1) hS1 hl
  rw [g_fld hk, hz]
  congr 2
  apply List.map_congr_left
  intro k0 _
  unfold g_v g_va
  rw [hrn]
  rfl
/-- the same cells, told by another picture: the frame goes on over that one -/
theorem J_conv {E1 : List (Nat × Nat)} {ad1 : Nat → Nat → Nat} {rh1 : gRh} {μ1 : gM} (hI : gI E1 ad1) (h : ∀ f i, (f, i) ∈ E1 → (f, i) ∈ E ∧ ad1 f i = ad f i ∧ g_e kd tc ad1 rh1 (μ1 f i) f i = g_e kd tc ad rh (μ f i) f i) (k : J p l e R s m args below meth c cc nL own D E1 kd tc ad1 rh1 sa A H0 cells slots Q μ1 pc lv st) : J p l e R s m args below meth c cc nL own D E kd tc ad rh sa A H0 cells slots Q μ pc lv st := by
  intro H locs ls C hP hS hl
  refine k H locs ls ⟨C.1, C.2.1, C.2.2.1, C.2.2.2.1, C.2.2.2.2.1, C.2.2.2.2.2.1, fun μ' => ⟨(g_D (sz := 0) hI μ').1, fun k0 q0 h0 => ?_⟩, C.2.2.2.2.2.2.2⟩ (gP_conv h hP) hS hl
  obtain ⟨f, i, h1, rfl⟩ := g_w_mem.mp (List.mem_of_getElem? h0)
  obtain ⟨h2, h3, -⟩ := h f i h1
  obtain ⟨k1, -, h4⟩ := g_at (kd := kd) (tc := tc) (ad := ad) (rh := rh) (μ := μ) h2
  show A (ad1 f i)
  rw [h3]
  exact (C.2.2.2.2.2.2.1 μ).2 k1 _ h4
/-- a reference put into an object whose place was empty so far -/
theorem J_putRN {f i ci n idx f' i' : Nat} {refs : List Nat} {Cn ref : String} {T : u_T} (hE : (f, i) ∈ E) (hI : gI E ad) (hk : kd f = .inl (ci, n, refs)) (hc : vwCl[ci]? = some (Cn, T, n)) (hin : ∀ w ∈ u_ws Cn T n, w ∈ BIG) (ty0 : Nat → FieldType) (hty : ∀ k, k < n → parseFieldDescriptor (T k).2.2.1 = some (ty0 k)) (hnm : ∀ a, a < n → ∀ b, b < n → a ≠ b → (T a).2.1 ≠ (T b).2.1) (k0 : Nat) (hlt : k0 < n) (hr : refs.contains k0 = true) (hw : Cond.fieldLink own idx ref (T k0).2.1 (T k0).2.2.1 ∈ BIG) (href : ref = (T k0).1) (hfin : (T k0).2.2.2 = false) (hn : narrow (ty0 k0) (.ref (ad f' i')) = .ref (ad f' i')) (hfit : fits (ty0 k0) (.ref (ad f' i')) = true) (hdg : decode cc pc = .ok (.putfield idx, 3)) {pc1 : Nat} (hp : pc + 3 = pc1) (k : J p l e R s m args below meth c cc nL own D E kd tc ad (gRs rh f i k0 (f', i')) sa A H0 cells slots Q μ pc1 lv st) : J p l e R s m args below meth c cc nL own D E kd tc ad rh sa A H0 cells slots Q μ pc lv (.ref (ad f' i') :: .ref (ad f i) :: st) := fun H locs ls C hP hS hl => by
  subst hp
  obtain ⟨q0, hE0, hq⟩ := g_at (kd := kd) (tc := tc) (ad := ad) (rh := rh) (μ := μ) hE
  have hq' := hq
  rw [g_fld hk] at hq'
  refine va_put C.1 C.2.1 C.2.2.2.2.1 hin ty0 hty hnm C.2.2.2.1 C.2.2.2.2.2.1.1 hP (C.2.2.2.2.2.2.1 μ) hS q0 hq' hc k0 hlt (C.2.2.2.2.1 _ hw) (ref := ref) (fun x hx => by rw [href]; exact hx) hfin (hty k0 hlt) hn hfit (by simpa using hlt) hdg (fun H1 locs1 h1 h2 h3 => ?_)
  refine k H1 locs1 ls ⟨C.1, C.2.1, C.2.2.1, C.2.2.2.1, C.2.2.2.2.1, C.2.2.2.2.2.1, fun μ' => gD_fst (by simp [g_w]) (C.2.2.2.2.2.2.1 μ'), C.2.2.2.2.2.2.2⟩ (g_setR hE0 ?_ (fun f1 i1 h4 h5 => gRs_ne h5) h1) h3 hl
  rw [g_fld hk, g_rset]
  congr 2
  apply List.map_congr_left
  intro j hj
  by_cases hjk : j = k0
  · subst hjk
    rw [if_pos rfl]
    unfold g_v
    rw [if_pos hr, gRs_at]
    rfl
  · rw [if_neg hjk]
    unfold g_v
    rw [gRs_k hjk]
/-- a reference put into an array's place -/
theorem J_aastRN {f i t n f' i' ci n' : Nat} {refs : List Nat} {r : vw_C} {x : Int32} (hE : (f, i) ∈ E) (hk : kd f = .inr (.inr (t, n))) (ht : (gT tc)[t]? = some (tc t, .object r.1)) (hE' : (f', i') ∈ E) (hk' : kd f' = .inl (ci, n', refs)) (hc : vwCl[ci]? = some r) (hin : vp_in x n) (hdg : decode cc pc = .ok (.aastore, 1)) {pc1 : Nat} (hp : pc + 1 = pc1) (k : J p l e R s m args below meth c cc nL own D E kd tc ad (gRs rh f i x.toNatClampNeg (f', i')) sa A H0 cells slots Q μ pc1 lv st) : J p l e R s m args below meth c cc nL own D E kd tc ad rh sa A H0 cells slots Q μ pc lv (.ref (ad f' i') :: .int x :: .ref (ad f i) :: st) := fun H locs ls C hP hS hl => by
  subst hp
  obtain ⟨q0, h0, hq⟩ := g_at (kd := kd) (tc := tc) (ad := ad) (rh := rh) (μ := μ) hE
  obtain ⟨q1, h1', hq1⟩ := g_at (kd := kd) (tc := tc) (ad := ad) (rh := rh) (μ := μ) hE'
  rw [g_ars hk] at hq
  rw [g_fld hk'] at hq1
  refine va_astq C.1 C.2.1 C.2.2.2.2.2.1.1 hP (C.2.2.2.2.2.2.1 μ) hS q0 t q1 ci hq ht hq1 hc hin hdg (fun H1 locs1 h1 h2 h3 => ?_)
  refine k H1 locs1 ls ⟨C.1, C.2.1, C.2.2.1, C.2.2.2.1, C.2.2.2.2.1, C.2.2.2.2.2.1, fun μ' => gD_fst (by simp [g_w]) (C.2.2.2.2.2.2.1 μ'), C.2.2.2.2.2.2.2⟩ (g_setR h0 ?_ (fun f1 i1 h4 h5 => gRs_ne h5) h1) h3 hl
  rw [g_ars hk]
  have e3 : (va_up (fun j => (rh (μ f i) f i j).map (fun q => ad q.1 q.2)) x.toNatClampNeg (some (ad f' i'))) = (fun j => (gRs rh f i x.toNatClampNeg (f', i') (μ f i) f i j).map (fun q => ad q.1 q.2)) := by
    funext j
    unfold va_up
    by_cases hj : j = x.toNatClampNeg
    · subst hj
      rw [if_pos rfl, gRs_at]; rfl
    · rw [if_neg hj, gRs_k hj]
  rw [e3]
end GN
