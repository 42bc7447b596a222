/-! worlds that grow, and worlds that are equal cell by cell -/
section GR
variable {D : va_G} {cl : List vw_C} {H : Heap} {E E1 : List (Nat × Nat)} {kd : Nat → gKd} {tc : Nat → ClassId} {ad ad1 : Nat → Nat → Nat} {rh rh1 : gRh} {μ μ1 : gM}
theorem gP_sub {ws ws1 : va_W} (h : ∀ x ∈ ws1, x ∈ ws) (hP : va_P D cl ws H) : va_P D cl ws1 H := fun k q hk => by
  obtain ⟨i, hi⟩ := List.getElem?_of_mem (h q (List.mem_of_getElem? hk))
  exact hP i q hi
theorem g_w_mem {x : Nat × va_E} : x ∈ g_w E kd tc ad rh μ ↔ ∃ f i, (f, i) ∈ E ∧ x = (ad f i, g_e kd tc ad rh (μ f i) f i) := by
  unfold g_w
  rw [List.mem_map]
  constructor
  · rintro ⟨⟨f, i⟩, h1, h2⟩
    exact ⟨f, i, h1, h2.symm⟩
  · rintro ⟨f, i, h1, h2⟩
    exact ⟨(f, i), h1, h2.symm⟩
/-- the same cells, told by another picture -/
theorem gP_conv (h : ∀ f i, (f, i) ∈ E1 → (f, i) ∈ E ∧ ad1 f i = ad f i ∧ g_e kd tc ad1 rh1 (μ1 f i) f i = g_e kd tc ad rh (μ f i) f i) (hP : va_P D cl (g_w E kd tc ad rh μ) H) : va_P D cl (g_w E1 kd tc ad1 rh1 μ1) H := by
  refine gP_sub (fun x hx => ?_) hP
  obtain ⟨f, i, h1, rfl⟩ := g_w_mem.mp hx
  obtain ⟨h2, h3, h4⟩ := h f i h1
  exact g_w_mem.mpr ⟨f, i, h2, by rw [h3, h4]⟩
/-- one more cell -/
theorem gP_new {q f0 i0 : Nat} {ent : va_E} (hq : ad1 f0 i0 = q) (he : g_e kd tc ad1 rh1 (μ1 f0 i0) f0 i0 = ent) (h : ∀ f i, (f, i) ∈ E → ad1 f i = ad f i ∧ g_e kd tc ad1 rh1 (μ1 f i) f i = g_e kd tc ad rh (μ f i) f i) (hP : va_P D cl (g_w E kd tc ad rh μ ++ [(q, ent)]) H) : va_P D cl (g_w (E ++ [(f0, i0)]) kd tc ad1 rh1 μ1) H := by
  refine gP_sub (fun x hx => ?_) hP
  obtain ⟨f, i, h1, rfl⟩ := g_w_mem.mp hx
  rw [List.mem_append]
  rcases List.mem_append.mp h1 with h2 | h2
  · obtain ⟨h3, h4⟩ := h f i h2
    exact Or.inl (g_w_mem.mpr ⟨f, i, h2, by rw [h3, h4]⟩)
  · obtain ⟨rfl, rfl⟩ := Prod.mk.inj (List.mem_singleton.mp h2)
    exact Or.inr (List.mem_singleton.mpr (by rw [hq, he]))
/-- the new cell's place is none of the old ones -/
theorem g_fresh {A : Nat → Prop} {q : Nat} {ent : va_E} (hD : va_D A (g_w E kd tc ad rh μ ++ [(q, ent)])) {f i : Nat} (h : (f, i) ∈ E) : ad f i ≠ q := by
  intro e
  obtain ⟨k, h1, h2⟩ := g_at (kd := kd) (tc := tc) (ad := ad) (rh := rh) (μ := μ) h
  have hk : k < (g_w E kd tc ad rh μ).length := (List.getElem?_eq_some_iff.mp h2).1
  have h3 := hD.1 k (g_w E kd tc ad rh μ).length _ _ (by rw [List.getElem?_append_left hk]; exact h2) (by rw [List.getElem?_append_right (Nat.le_refl _), Nat.sub_self]; rfl) e
  omega
theorem gTc0 {s : State} {cA : ClassId} (hK : va_K D cl (gT tc) s) (h : s.vm.findClass ("[" ++ FieldType.int.toString) = some cA) : cA = tc 0 :=
  Option.some.inj (h.symm.trans (hK.2 0 _ rfl).2)
theorem gTc1 {s : State} {cA : ClassId} (hK : va_K D cl (gT tc) s) (h : s.vm.findClass ("[" ++ FieldType.char.toString) = some cA) : cA = tc 1 :=
  Option.some.inj (h.symm.trans (hK.2 1 _ rfl).2)
theorem gTc2 {s : State} {cA : ClassId} (hK : va_K D cl (gT tc) s) (h : va_RA s cA (.object RX4)) : cA = tc 2 := by
  obtain ⟨-, -, -, -, -, h1⟩ := h
  obtain ⟨-, -, -, -, -, h2⟩ := (hK.2 2 _ rfl).2
  exact Option.some.inj (h1.symm.trans h2)
theorem gTc3 {s : State} {cA : ClassId} (hK : va_K D cl (gT tc) s) (h : va_RA s cA (.object RX2)) : cA = tc 3 := by
  obtain ⟨-, -, -, -, -, h1⟩ := h
  obtain ⟨-, -, -, -, -, h2⟩ := (hK.2 3 _ rfl).2
  exact Option.some.inj (h1.symm.trans h2)
end GR
