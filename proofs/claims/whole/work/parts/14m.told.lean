/-! two worlds that tell the same of every cell, arrays of references told within their length alone -/
theorem vp_cell_cg {cA : ClassId} {n : Nat} {f f' : Nat → Option Nat} (h : ∀ j, j < n → f j = f' j) : vp_cell cA (n, .inr (.inr (.inr (.inr f)))) = vp_cell cA (n, .inr (.inr (.inr (.inr f')))) := by
  rw [vp_cell_q, vp_cell_q]
  unfold arrV
  congr 2
  funext j
  show va_rf (f j.1) = va_rf (f' j.1)
  rw [h j.1 j.2]
/-- the places of a cell that hold references, within its length -/
def gRn (kd : Nat → gKd) (f k : Nat) : Prop := match kd f with
  | .inl z => z.2.2.contains k = true ∧ k < z.2.1
  | .inr (.inl _) => False
  | .inr (.inr z) => k < z.2
theorem va_at_cg {D : va_G} {cl : List vw_C} {H : Heap} {kd : Nat → gKd} {tc : Nat → ClassId} {ad ad1 : Nat → Nat → Nat} {rh rh1 : gRh} {row : Nat → Int32} {f i q : Nat} (h : ∀ k, gRn kd f k → (rh1 row f i k).map (fun z => ad1 z.1 z.2) = (rh row f i k).map (fun z => ad z.1 z.2)) (hA : va_at D cl (q, g_e kd tc ad rh row f i) H) : va_at D cl (q, g_e kd tc ad1 rh1 row f i) H := by
  unfold gRn at h
  cases hk : kd f with
  | inl z =>
    rw [hk] at h
    rw [g_e_cg (ad := ad) (ad1 := ad1) (rh := rh) (rh1 := rh1) (fun k hr => h k (by unfold gRl at hr; rw [hk] at hr; exact hr))]
    exact hA
  | inr z =>
    rw [hk] at h
    cases z with
    | inl z =>
      rw [g_e_cg (ad := ad) (ad1 := ad1) (rh := rh) (rh1 := rh1) (fun k hr => by unfold gRl at hr; rw [hk] at hr; exact hr.elim)]
      exact hA
    | inr z =>
      unfold g_e at hA ⊢
      rw [hk] at hA ⊢
      have hA2 : H[q]? = some (vp_cell (tc z.1) (z.2, .inr (.inr (.inr (.inr (fun j => (rh row f i j).map (fun q => ad q.1 q.2))))))) := hA
      show H[q]? = some (vp_cell (tc z.1) (z.2, .inr (.inr (.inr (.inr (fun j => (rh1 row f i j).map (fun q => ad1 q.1 q.2)))))))
      rw [hA2, vp_cell_cg (fun j hj => (h j hj).symm)]
theorem J_conv3 {p : Program} {l : Launch} {e : Env} {R : Room} {s : State} {m : MethodId} {args : Array Value} {below : List Frame} {meth : Method} {c : Code} {cc : ByteArray} {nL : Nat} {own : String} {D : va_G} {E : List (Nat × Nat)} {kd : Nat → gKd} {tc : Nat → ClassId} {ad : Nat → Nat → Nat} {rh : gRh} {sa : Nat → Nat} {A : Nat → Prop} {H0 : Heap} {cells slots : Nat} {Q : State → Prop} {μ : gM} {pc : Nat} {lv : List (Nat × Value)} {st : List Value} {E1 : List (Nat × Nat)} {ad1 : Nat → Nat → Nat} {rh1 : gRh} (hI : gI E1 ad1) (h : ∀ f i, (f, i) ∈ E1 → (f, i) ∈ E ∧ ad1 f i = ad f i ∧ ∀ k, gRn kd f k → (rh1 (μ f i) f i k).map (fun z => ad1 z.1 z.2) = (rh (μ f i) f i k).map (fun z => ad z.1 z.2)) (k : J p l e R s m args below meth c cc nL own D E1 kd tc ad1 rh1 sa A H0 cells slots Q μ pc lv st) : J p l e R s m args below meth c cc nL own D E kd tc ad rh sa A H0 cells slots Q μ pc lv st := by
  intro H locs ls C hP hS hl
  refine k H locs ls ⟨C.1, C.2.1, C.2.2.1, C.2.2.2.1, C.2.2.2.2.1, C.2.2.2.2.2.1, fun μ' => ⟨(g_D (sz := 0) hI μ').1, fun k0 q0 h0 => ?_⟩, C.2.2.2.2.2.2.2⟩ (fun k0 q0 h0 => ?_) hS hl
  · obtain ⟨f, i, h1, rfl⟩ := g_w_mem.mp (List.mem_of_getElem? h0)
    obtain ⟨h2, h3, -⟩ := h f i h1
    obtain ⟨k1, -, h4⟩ := g_at (kd := kd) (tc := tc) (ad := ad) (rh := rh) (μ := μ) h2
    show A (ad1 f i)
    rw [h3]
    exact (C.2.2.2.2.2.2.1 μ).2 k1 _ h4
  · obtain ⟨f, i, h1, rfl⟩ := g_w_mem.mp (List.mem_of_getElem? h0)
    obtain ⟨h2, h3, h5⟩ := h f i h1
    obtain ⟨k1, -, h4⟩ := g_at (kd := kd) (tc := tc) (ad := ad) (rh := rh) (μ := μ) h2
    rw [h3]
    exact va_at_cg h5 (hP k1 _ h4)
