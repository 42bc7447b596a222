/-! two worlds side by side: the first's families lie below 30, the second's are moved by 30 -/
def mxK (a b : Nat → gKd) : Nat → gKd := fun f => if f < 30 then a f else b (f - 30)
def mxA (a b : Nat → Nat → Nat) : Nat → Nat → Nat := fun f i => if f < 30 then a f i else b (f - 30) i
def mxM (a b : gM) : gM := fun f i k => if f < 30 then a f i k else b (f - 30) i k
def mxR (a b : gRh) : gRh := fun row f i k => if f < 30 then a row f i k else (b row (f - 30) i k).map (fun z => (z.1 + 30, z.2))
def mxE (a b : List (Nat × Nat)) : List (Nat × Nat) := a ++ b.map (fun q => (q.1 + 30, q.2))
/-- a world of families below 30 -/
def mxL (E : List (Nat × Nat)) (rh : gRh) : Prop := (∀ f i, (f, i) ∈ E → f < 30) ∧ ∀ f i row k z, (f, i) ∈ E → rh row f i k = some z → z.1 < 30
theorem mxE_in {a b : List (Nat × Nat)} {f i : Nat} : (f, i) ∈ mxE a b ↔ (f, i) ∈ a ∨ ∃ f0, (f0, i) ∈ b ∧ f = f0 + 30 := by
  unfold mxE
  rw [List.mem_append, List.mem_map]
  constructor
  · rintro (h | ⟨⟨f0, i0⟩, h1, h2⟩)
    · exact Or.inl h
    · obtain ⟨rfl, rfl⟩ := Prod.mk.inj h2
      exact Or.inr ⟨f0, h1, rfl⟩
  · rintro (h | ⟨f0, h1, rfl⟩)
    · exact Or.inl h
    · exact Or.inr ⟨(f0, i), h1, rfl⟩
theorem mxE_a {a b : List (Nat × Nat)} {f i : Nat} (h : (f, i) ∈ a) : (f, i) ∈ mxE a b := mxE_in.mpr (Or.inl h)
theorem mxE_b {a b : List (Nat × Nat)} {f i : Nat} (h : (f, i) ∈ b) : (f + 30, i) ∈ mxE a b := mxE_in.mpr (Or.inr ⟨f, h, rfl⟩)
theorem mxA_a {a b : Nat → Nat → Nat} {f i : Nat} (h : f < 30) : mxA a b f i = a f i := if_pos h
theorem mxA_b {a b : Nat → Nat → Nat} {f i : Nat} : mxA a b (f + 30) i = b f i := by
  unfold mxA
  rw [if_neg (by omega), Nat.add_sub_cancel]
section MX
variable {Ea Eb : List (Nat × Nat)} {kda kdb : Nat → gKd} {tc : Nat → ClassId} {ada adb : Nat → Nat → Nat} {rha rhb : gRh} {μa μb : gM} {f i : Nat}
theorem mx_ga (hL : mxL Ea rha) (h : (f, i) ∈ Ea) : g_e (mxK kda kdb) tc (mxA ada adb) (mxR rha rhb) (mxM μa μb f i) f i = g_e kda tc ada rha (μa f i) f i := by
  have hf := hL.1 f i h
  have e1 : mxM μa μb f i = μa f i := by
    funext k
    exact if_pos hf
  have key : ∀ k, (mxR rha rhb (μa f i) f i k).map (fun z => mxA ada adb z.1 z.2) = (rha (μa f i) f i k).map (fun z => ada z.1 z.2) := by
    intro k
    show (if f < 30 then rha (μa f i) f i k else _).map _ = _
    rw [if_pos hf]
    cases hz : rha (μa f i) f i k with
    | none => rfl
    | some z => exact congrArg some (mxA_a (hL.2 f i _ k z h hz))
  rw [e1]
  unfold g_e
  have e2 : mxK kda kdb f = kda f := if_pos hf
  rw [e2]
  cases kda f with
  | inl z =>
    show Sum.inr _ = Sum.inr _
    congr 2
    apply List.map_congr_left
    intro k _
    unfold g_v g_va
    rw [key k]
  | inr z =>
    cases z with
    | inl z => rfl
    | inr z =>
      show Sum.inl _ = Sum.inl _
      simp only [key]
theorem mx_gb : g_e (mxK kda kdb) tc (mxA ada adb) (mxR rha rhb) (mxM μa μb (f + 30) i) (f + 30) i = g_e kdb tc adb rhb (μb f i) f i := by
  have hf : ¬ f + 30 < 30 := by omega
  have e1 : mxM μa μb (f + 30) i = μb f i := by
    funext k
    show (if f + 30 < 30 then _ else μb (f + 30 - 30) i k) = _
    rw [if_neg hf, Nat.add_sub_cancel]
  have key : ∀ k, (mxR rha rhb (μb f i) (f + 30) i k).map (fun z => mxA ada adb z.1 z.2) = (rhb (μb f i) f i k).map (fun z => adb z.1 z.2) := by
    intro k
    show (if f + 30 < 30 then _ else (rhb (μb f i) (f + 30 - 30) i k).map (fun z => (z.1 + 30, z.2))).map _ = _
    rw [if_neg hf, Nat.add_sub_cancel]
    cases hz : rhb (μb f i) f i k with
    | none => rfl
    | some z => exact congrArg some mxA_b
  rw [e1]
  unfold g_e
  have e2 : mxK kda kdb (f + 30) = kdb f := by
    show (if f + 30 < 30 then _ else kdb (f + 30 - 30)) = _
    rw [if_neg hf, Nat.add_sub_cancel]
  rw [e2]
  cases kdb f with
  | inl z =>
    show Sum.inr _ = Sum.inr _
    congr 2
    apply List.map_congr_left
    intro k _
    unfold g_v g_va
    rw [key k]
  | inr z =>
    cases z with
    | inl z => rfl
    | inr z =>
      show Sum.inl _ = Sum.inl _
      simp only [key]
theorem gI_mem {E : List (Nat × Nat)} {ad : Nat → Nat → Nat} (hI : gI E ad) {p q : Nat × Nat} (hp : p ∈ E) (hq : q ∈ E) (h : ad p.1 p.2 = ad q.1 q.2) : p = q := by
  obtain ⟨k1, e1⟩ := List.getElem?_of_mem hp
  obtain ⟨k2, e2⟩ := List.getElem?_of_mem hq
  have e3 := hI k1 k2 p q e1 e2 h
  subst e3
  exact Option.some.inj (e1.symm.trans e2)
theorem gI_mx (h30 : ∀ f i, (f, i) ∈ Ea → f < 30) (h1 : gI Ea ada) (h2 : gI Eb adb) (h3 : ∀ f i f' i', (f, i) ∈ Ea → (f', i') ∈ Eb → ada f i ≠ adb f' i') : gI (mxE Ea Eb) (mxA ada adb) := by
  have key : ∀ (k : Nat) (q : Nat × Nat), (mxE Ea Eb)[k]? = some q → (k < Ea.length ∧ Ea[k]? = some q ∧ mxA ada adb q.1 q.2 = ada q.1 q.2) ∨ (Ea.length ≤ k ∧ ∃ z : Nat × Nat, Eb[k - Ea.length]? = some z ∧ mxA ada adb q.1 q.2 = adb z.1 z.2) := by
    intro k q h
    unfold mxE at h
    by_cases hk : k < Ea.length
    · rw [List.getElem?_append_left hk] at h
      exact Or.inl ⟨hk, h, mxA_a (h30 q.1 q.2 (List.mem_of_getElem? h))⟩
    · rw [List.getElem?_append_right (by omega), List.getElem?_map] at h
      cases hz : Eb[k - Ea.length]? with
      | none => rw [hz] at h; cases h
      | some z =>
        rw [hz] at h
        cases h
        exact Or.inr ⟨by omega, z, rfl, mxA_b⟩
  intro k1 k2 p q hp hq he
  rcases key k1 p hp with ⟨a1, a2, a3⟩ | ⟨a1, z, a2, a3⟩ <;> rcases key k2 q hq with ⟨b1, b2, b3⟩ | ⟨b1, y, b2, b3⟩
  · exact h1 k1 k2 p q a2 b2 (by rw [← a3, ← b3]; exact he)
  · exact absurd (show ada p.1 p.2 = adb y.1 y.2 by rw [← a3, he, b3]) (h3 _ _ _ _ (List.mem_of_getElem? a2) (List.mem_of_getElem? b2))
  · exact absurd (show ada q.1 q.2 = adb z.1 z.2 by rw [← b3, ← he, a3]) (h3 _ _ _ _ (List.mem_of_getElem? b2) (List.mem_of_getElem? a2))
  · have := h2 _ _ z y a2 b2 (by rw [← a3, ← b3]; exact he)
    omega
theorem gI_mxa (h30 : ∀ f i, (f, i) ∈ Ea → f < 30) (h : gI (mxE Ea Eb) (mxA ada adb)) : gI Ea ada := by
  intro i j p q hi hj he
  have hl : i < Ea.length := (List.getElem?_eq_some_iff.mp hi).1
  have hl2 : j < Ea.length := (List.getElem?_eq_some_iff.mp hj).1
  refine h i j p q (by unfold mxE; rw [List.getElem?_append_left hl]; exact hi) (by unfold mxE; rw [List.getElem?_append_left hl2]; exact hj) ?_
  rw [mxA_a (h30 _ _ (List.mem_of_getElem? hi)), mxA_a (h30 _ _ (List.mem_of_getElem? hj))]
  exact he
theorem gI_mxb (h : gI (mxE Ea Eb) (mxA ada adb)) : gI Eb adb := by
  intro i j p q hi hj he
  have := h (Ea.length + i) (Ea.length + j) (p.1 + 30, p.2) (q.1 + 30, q.2) (by unfold mxE; rw [List.getElem?_append_right (by omega), Nat.add_sub_cancel_left, List.getElem?_map, hi]; rfl) (by unfold mxE; rw [List.getElem?_append_right (by omega), Nat.add_sub_cancel_left, List.getElem?_map, hj]; rfl) (by
    show mxA ada adb (p.1 + 30) p.2 = mxA ada adb (q.1 + 30) q.2
    rw [mxA_b, mxA_b]
    exact he)
  omega
theorem mx_sep (h30 : ∀ f i, (f, i) ∈ Ea → f < 30) (h : gI (mxE Ea Eb) (mxA ada adb)) (f i f' i' : Nat) (h1 : (f, i) ∈ Ea) (h2 : (f', i') ∈ Eb) : ada f i ≠ adb f' i' := fun z => by
  have h3 := gI_mem h (p := (f, i)) (q := (f' + 30, i')) (mxE_a h1) (mxE_b h2) (by
    show mxA ada adb f i = mxA ada adb (f' + 30) i'
    rw [mxA_a (h30 f i h1), mxA_b]
    exact z)
  have h4 := h30 f i h1
  have h5 := (Prod.mk.inj h3).1
  omega
end MX
section MXJ
variable {p : Program} {l : Launch} {e : Env} {R : Room} {s : State} {m : MethodId} {args : Array Value} {below : List Frame} {meth : Method} {c : Code} {cc : ByteArray} {nL : Nat} {own : String} {D : va_G} {Ea Eb : List (Nat × Nat)} {kda kdb : Nat → gKd} {tc : Nat → ClassId} {ada adb : Nat → Nat → Nat} {rha rhb : gRh} {sa : Nat → Nat} {A : Nat → Prop} {H0 : Heap} {cells slots : Nat} {Q : State → Prop} {μa μb : gM} {pc : Nat} {lv : List (Nat × Value)} {st : List Value}

/-- a call that reaches the first of the two worlds -/
theorem J_mixA {mc ms : Nat} {P : gPo} {av st0 : List Value} {pc1 ce sl : Nat} (hI : gI (mxE Ea Eb) (mxA ada adb)) (hL : mxL Ea rha)
    (hrun : gRunH p l e R s m args below meth c cc nL own D (mxE Ea Eb) (mxK kda kdb) tc (mxA ada adb) (mxR rha rhb) sa A H0 cells slots (mxM μa μb) pc lv Ea kda ada rha μa mc ms P st av st0) (hp : pc + 3 = pc1) (h1 : cells + mc = ce) (h2 : slots + ms = sl)
    (hP : ∀ o E1 kd1 ad1 rh1 μ1, P o E1 kd1 ad1 rh1 μ1 → mxL E1 rh1)
    (k : ∀ (o : Option Value) (E1 : List (Nat × Nat)) (kd1 : Nat → gKd) (ad1 : Nat → Nat → Nat) (rh1 : gRh) (μ1 : gM), P o E1 kd1 ad1 rh1 μ1 → gI (mxE E1 Eb) (mxA ad1 adb) → J p l e R s m args below meth c cc nL own D (mxE E1 Eb) (mxK kd1 kdb) tc (mxA ad1 adb) (mxR rh1 rhb) sa A H0 ce sl Q (mxM μ1 μb) pc1 lv (o.toList ++ st)) : J p l e R s m args below meth c cc nL own D (mxE Ea Eb) (mxK kda kdb) tc (mxA ada adb) (mxR rha rhb) sa A H0 cells slots Q (mxM μa μb) pc lv st0 := by
  subst hp; subst h1; subst h2
  refine J_runG (fun f i h => ⟨f, i, mxE_a h, (mxA_a (hL.1 f i h)).symm, (mx_ga hL h).symm⟩) hrun (fun o E1 kd1 ad1 rh1 μ1 hp hI1 hf => ?_)
  have hL1 := hP _ _ _ _ _ _ hp
  have hI2 : gI (mxE E1 Eb) (mxA ad1 adb) := gI_mx hL1.1 hI1 (gI_mxb hI) (fun f i f' i' h1 h2 z => by
    rcases hf f i h1 with ⟨f2, i2, h3, h4⟩ | h3
    · exact mx_sep hL.1 hI f2 i2 f' i' h3 h2 (by rw [← h4]; exact z)
    · exact h3 (f' + 30) i' (mxE_b h2) (by rw [mxA_b]; exact z.symm))
  refine ⟨mxE E1 Eb, mxK kd1 kdb, mxA ad1 adb, mxR rh1 rhb, mxM μ1 μb, hI2, fun f i h => ?_, k o E1 kd1 ad1 rh1 μ1 hp hI2⟩
  rcases mxE_in.mp h with h3 | ⟨f0, h3, rfl⟩
  · exact Or.inl ⟨f, i, h3, mxA_a (hL1.1 f i h3), mx_ga hL1 h3⟩
  · refine Or.inr ⟨f0 + 30, i, mxE_b h3, fun a b hab z => ?_, by rw [mxA_b, mxA_b], by rw [mx_gb, mx_gb]⟩
    rw [mxA_b] at z
    exact mx_sep hL.1 hI a b f0 i hab h3 z
/-- one that leaves the first world as it was, but for its memory -/
theorem J_mixAM {mc ms : Nat} {av st0 st1 : List Value} {o : Option Value} {μ1 : gM} {pc1 ce sl : Nat} (hI : gI (mxE Ea Eb) (mxA ada adb)) (hL : mxL Ea rha)
    (hrun : gRunH p l e R s m args below meth c cc nL own D (mxE Ea Eb) (mxK kda kdb) tc (mxA ada adb) (mxR rha rhb) sa A H0 cells slots (mxM μa μb) pc lv Ea kda ada rha μa mc ms (gSame Ea kda ada rha o μ1) st av st0) (hp : pc + 3 = pc1) (hs : o.toList ++ st = st1) (h1 : cells + mc = ce) (h2 : slots + ms = sl) (k : J p l e R s m args below meth c cc nL own D (mxE Ea Eb) (mxK kda kdb) tc (mxA ada adb) (mxR rha rhb) sa A H0 ce sl Q (mxM μ1 μb) pc1 lv st1) : J p l e R s m args below meth c cc nL own D (mxE Ea Eb) (mxK kda kdb) tc (mxA ada adb) (mxR rha rhb) sa A H0 cells slots Q (mxM μa μb) pc lv st0 := by
  subst hs
  refine J_mixA hI hL hrun hp h1 h2 (fun o E1 kd1 ad1 rh1 μ1 hp => ?_) (fun o1 E1 kd1 ad1 rh1 μ3 hp hI1 => ?_)
  · obtain ⟨rfl, rfl, rfl, rfl, rfl, rfl⟩ := hp
    exact hL
  · obtain ⟨rfl, rfl, rfl, rfl, rfl, rfl⟩ := hp
    exact k
/-- a call that reaches the second of the two, and leaves it as it was but for its memory -/
theorem J_mixB {mc ms : Nat} {av st0 st1 : List Value} {o : Option Value} {μ1 : gM} {pc1 ce sl : Nat} (hI : gI (mxE Ea Eb) (mxA ada adb)) (hL : mxL Ea rha)
    (hrun : gRunH p l e R s m args below meth c cc nL own D (mxE Ea Eb) (mxK kda kdb) tc (mxA ada adb) (mxR rha rhb) sa A H0 cells slots (mxM μa μb) pc lv Eb kdb adb rhb μb mc ms (gSame Eb kdb adb rhb o μ1) st av st0) (hp : pc + 3 = pc1) (hs : o.toList ++ st = st1) (h1 : cells + mc = ce) (h2 : slots + ms = sl) (k : J p l e R s m args below meth c cc nL own D (mxE Ea Eb) (mxK kda kdb) tc (mxA ada adb) (mxR rha rhb) sa A H0 ce sl Q (mxM μa μ1) pc1 lv st1) : J p l e R s m args below meth c cc nL own D (mxE Ea Eb) (mxK kda kdb) tc (mxA ada adb) (mxR rha rhb) sa A H0 cells slots Q (mxM μa μb) pc lv st0 := by
  subst hs; subst hp; subst h1; subst h2
  refine J_runG (fun f i h => ⟨f + 30, i, mxE_b h, mxA_b.symm, mx_gb.symm⟩) hrun (fun o1 E1 kd1 ad1 rh1 μ3 hp hI1 hf => ?_)
  obtain ⟨rfl, rfl, rfl, rfl, rfl, rfl⟩ := hp
  refine ⟨mxE Ea E1, mxK kda kd1, mxA ada ad1, mxR rha rh1, mxM μa μ3, hI, fun f i h => ?_, k⟩
  rcases mxE_in.mp h with h3 | ⟨f0, h3, rfl⟩
  · refine Or.inr ⟨f, i, mxE_a h3, fun a b hab z => ?_, rfl, by rw [mx_ga hL h3, mx_ga hL h3]⟩
    rw [mxA_a (hL.1 f i h3)] at z
    exact mx_sep hL.1 hI f i a b h3 hab z.symm
  · exact Or.inl ⟨f0, i, h3, mxA_b, mx_gb⟩
/-- the first world told otherwise -/
theorem J_mixC {E1 : List (Nat × Nat)} {kd1 : Nat → gKd} {ad1 : Nat → Nat → Nat} {rh1 : gRh} {μ1 : gM} (hI : gI (mxE E1 Eb) (mxA ad1 adb)) (hL : mxL Ea rha) (hL1 : mxL E1 rh1) (h : ∀ f i, (f, i) ∈ E1 → ∃ f' i', (f', i') ∈ Ea ∧ ad1 f i = ada f' i' ∧ g_e kd1 tc ad1 rh1 (μ1 f i) f i = g_e kda tc ada rha (μa f' i') f' i') (k : J p l e R s m args below meth c cc nL own D (mxE E1 Eb) (mxK kd1 kdb) tc (mxA ad1 adb) (mxR rh1 rhb) sa A H0 cells slots Q (mxM μ1 μb) pc lv st) : J p l e R s m args below meth c cc nL own D (mxE Ea Eb) (mxK kda kdb) tc (mxA ada adb) (mxR rha rhb) sa A H0 cells slots Q (mxM μa μb) pc lv st := by
  refine J_conv2 hI (fun f i hf => ?_) k
  rcases mxE_in.mp hf with h3 | ⟨f0, h3, rfl⟩
  · obtain ⟨f', i', h4, h5, h6⟩ := h f i h3
    exact ⟨f', i', mxE_a h4, by rw [mxA_a (hL1.1 f i h3), mxA_a (hL.1 f' i' h4)]; exact h5, by rw [mx_ga hL1 h3, mx_ga hL h4]; exact h6⟩
  · exact ⟨f0 + 30, i, mxE_b h3, by rw [mxA_b, mxA_b], by rw [mx_gb, mx_gb]⟩
theorem gI_mxC {E1 : List (Nat × Nat)} (h : gI (mxE Ea Eb) (mxA ada adb)) (h30 : ∀ f i, (f, i) ∈ Ea → f < 30) (hs : ∀ f i, (f, i) ∈ E1 → (f, i) ∈ Ea) (h1 : gI E1 ada) : gI (mxE E1 Eb) (mxA ada adb) :=
  gI_mx (fun f i q => h30 f i (hs f i q)) h1 (gI_mxb h) (fun f i f' i' a b => mx_sep h30 h f i f' i' (hs f i a) b)
end MXJ
