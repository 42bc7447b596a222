/-! <init> on what was made just now: its new cells behind the world's -/
/-- the class's pointers, those that are set already (their places hold a number that is not 0) -/
def rhK (nc : Nat) : gRh := fun row f i k => if row k = (if f = 10 then -1 else 0) then none else grh_C nc row f i k
theorem rhK_no {nc f i k : Nat} {row : Nat → Int32} (h : row k = (if f = 10 then -1 else 0)) : rhK nc row f i k = none := if_pos h
theorem rhK_at {nc f i k : Nat} {row : Nat → Int32} (h : ¬ row k = (if f = 10 then -1 else 0)) : rhK nc row f i k = grh_C nc row f i k := if_neg h
theorem rhK_put {nc f i k0 : Nat} {v : Int32} {z : Nat × Nat} (hv : ¬ v = (if f = 10 then -1 else 0)) (hg : ∀ (r r' : Nat → Int32) (j : Nat), r j = r' j → grh_C nc r f i j = grh_C nc r' f i j) (ht : ∀ r : Nat → Int32, r k0 = v → grh_C nc r f i k0 = some z) (row : Nat → Int32) (j : Nat) : rhK nc (upd row k0 v) f i j = if j = k0 then some z else rhK nc row f i j := by
  by_cases h : j = k0
  · subst h
    rw [if_pos rfl, rhK_at (by rw [upd_at]; exact hv), ht _ (upd_at _ _ _)]
  · rw [if_neg h]
    unfold rhK
    rw [upd_ne _ _ h, hg (upd row k0 v) row j (upd_ne _ _ h)]
/-- no cell points out of the world -/
def clE (kd : Nat → gKd) (rh : gRh) (E : List (Nat × Nat)) (μ : gM) : Prop := ∀ f i k z, (f, i) ∈ E → gRl kd f k → rh (μ f i) f i k = some z → z ∈ E
def muN (f0 i0 : Nat) (New : List (Nat × Nat)) (ν μ : gM) : gM := fun f i => if (f = f0 ∧ i = i0) ∨ (f, i) ∈ New then ν f i else μ f i
def iPo (kd : Nat → gKd) (ad : Nat → Nat → Nat) (rh : gRh) (f0 i0 : Nat) (New : List (Nat × Nat)) (ν : gM) : gPo := fun o1 E1 kd1 ad1 rh1 μ1 =>
  o1 = none ∧ E1 = (f0, i0) :: New ∧ kd1 = kd ∧ ad1 f0 i0 = ad f0 i0 ∧ rh1 = rh ∧ μ1 = ν
theorem gI_app {E F : List (Nat × Nat)} {ad : Nat → Nat → Nat} (h1 : gI E ad) (h2 : gI F ad) (h3 : ∀ a b, a ∈ E → b ∈ F → ad a.1 a.2 ≠ ad b.1 b.2) : gI (E ++ F) ad := by
  intro i j p q hi hj he
  by_cases a : i < E.length <;> by_cases b : j < E.length
  · rw [List.getElem?_append_left a] at hi
    rw [List.getElem?_append_left b] at hj
    exact h1 i j p q hi hj he
  · rw [List.getElem?_append_left a] at hi
    rw [List.getElem?_append_right (by omega)] at hj
    exact absurd he (h3 p q (List.mem_of_getElem? hi) (List.mem_of_getElem? hj))
  · rw [List.getElem?_append_right (by omega)] at hi
    rw [List.getElem?_append_left b] at hj
    exact absurd he.symm (h3 q p (List.mem_of_getElem? hj) (List.mem_of_getElem? hi))
  · rw [List.getElem?_append_right (by omega)] at hi hj
    have := h2 _ _ p q hi hj he
    omega
theorem gI_cg {E : List (Nat × Nat)} {ad ad1 : Nat → Nat → Nat} (h : gI E ad) (e : ∀ f i, (f, i) ∈ E → ad1 f i = ad f i) : gI E ad1 := fun i j p q hi hj he => h i j p q hi hj (by rw [← e p.1 p.2 (List.mem_of_getElem? hi), ← e q.1 q.2 (List.mem_of_getElem? hj)]; exact he)
theorem gI_tail {E : List (Nat × Nat)} {ad : Nat → Nat → Nat} {x : Nat × Nat} (h : gI (x :: E) ad) : gI E ad := fun i j p q hi hj he => by
  have := h (i + 1) (j + 1) p q hi hj he
  omega
section IC
variable {p : Program} {l : Launch} {e : Env} {R : Room} {s : State} {m : MethodId} {args : Array Value} {below : List Frame} {meth : Method} {c : Code} {cc : ByteArray} {nL : Nat} {own : String} {D : va_G} {E : List (Nat × Nat)} {kd : Nat → gKd} {tc : Nat → ClassId} {ad : Nat → Nat → Nat} {rh : gRh} {sa : Nat → Nat} {A : Nat → Prop} {H0 : Heap} {cells slots : Nat} {Q : State → Prop} {μ : gM} {pc : Nat} {lv : List (Nat × Value)} {st : List Value}

theorem J_initC {New : List (Nat × Nat)} {ν : gM} {f0 i0 mc ms pc1 ce sl : Nat} {av st0 : List Value} (hI : gI E ad) (hcl : clE kd rh E μ) (hE : (f0, i0) ∈ E) (hnew : ∀ f i, (f, i) ∈ New → (f, i) ∉ E) (hclv : clE kd rh ((f0, i0) :: New) ν)
    (hrun : gRunH p l e R s m args below meth c cc nL own D E kd tc ad rh sa A H0 cells slots μ pc lv [(f0, i0)] kd ad rh μ mc ms (iPo kd ad rh f0 i0 New ν) st av st0) (hp : pc + 3 = pc1) (h1 : cells + mc = ce) (h2 : slots + ms = sl)
    (k : ∀ ad1 : Nat → Nat → Nat, gI (E ++ New) ad1 → (∀ f i, (f, i) ∈ E → ad1 f i = ad f i) → clE kd rh (E ++ New) (muN f0 i0 New ν μ) → J p l e R s m args below meth c cc nL own D (E ++ New) kd tc ad1 rh sa A H0 ce sl Q (muN f0 i0 New ν μ) pc1 lv st) : J p l e R s m args below meth c cc nL own D E kd tc ad rh sa A H0 cells slots Q μ pc lv st0 := by
  subst hp; subst h1; subst h2
  have hs : ∀ f i, (f, i) ∈ [(f0, i0)] → f = f0 ∧ i = i0 := fun f i h => Prod.mk.inj (List.mem_singleton.mp h)
  refine J_runG (fun f i h => by
    obtain ⟨rfl, rfl⟩ := hs f i h
    exact ⟨f, i, hE, rfl, rfl⟩) hrun (fun o E1 kd1 ad1 rh1 μ1 hp hI1 hf => ?_)
  obtain ⟨rfl, rfl, rfl, h00, rfl, rfl⟩ := hp
  have h0N : (f0, i0) ∉ New := fun z => hnew f0 i0 z hE
  have a2 : ∃ ad2 : Nat → Nat → Nat, (∀ f i, (f, i) ∈ New → ad2 f i = ad1 f i) ∧ ∀ f i, (f, i) ∉ New → ad2 f i = ad f i := ⟨fun f i => if (f, i) ∈ New then ad1 f i else ad f i, fun f i h => if_pos h, fun f i h => if_neg h⟩
  obtain ⟨ad2, hN, hO⟩ := a2
  have hOE : ∀ f i, (f, i) ∈ E → ad2 f i = ad f i := fun f i h => hO f i (fun z => hnew f i z h)
  have h1' : ∀ z : Nat × Nat, z ∈ (f0, i0) :: New → ad2 z.1 z.2 = ad1 z.1 z.2 := fun z hz => by
    rcases List.mem_cons.mp hz with rfl | hz
    · rw [hO _ _ h0N, h00]
    · exact hN _ _ hz
  have hI2 : gI (E ++ New) ad2 := gI_app (gI_cg hI hOE) (gI_cg (gI_tail hI1) hN) (fun a b ha hb z => by
    rw [hOE _ _ ha, hN _ _ hb] at z
    rcases hf b.1 b.2 (List.mem_cons_of_mem _ hb) with ⟨f', i', h3, h4⟩ | h3
    · obtain ⟨rfl, rfl⟩ := hs f' i' h3
      have h5 := gI_mem hI1 (p := b) (q := (f', i')) (List.mem_cons_of_mem _ hb) List.mem_cons_self (by rw [h4]; exact h00.symm)
      exact h0N (h5 ▸ hb)
    · exact h3 a.1 a.2 ha z)
  have hcl2 : clE kd1 rh1 (E ++ New) (muN f0 i0 New μ1 μ) := fun f i k z hm hr hz => by
    by_cases hn : (f = f0 ∧ i = i0) ∨ (f, i) ∈ New
    · have e1 : muN f0 i0 New μ1 μ f i = μ1 f i := if_pos hn
      rw [e1] at hz
      have hm2 : (f, i) ∈ (f0, i0) :: New := by
        rcases hn with ⟨rfl, rfl⟩ | hn
        · exact List.mem_cons_self
        · exact List.mem_cons_of_mem _ hn
      rcases List.mem_cons.mp (hclv f i k z hm2 hr hz) with rfl | h9
      · exact List.mem_append_left _ hE
      · exact List.mem_append_right _ h9
    · have e1 : muN f0 i0 New μ1 μ f i = μ f i := if_neg hn
      rw [e1] at hz
      rcases List.mem_append.mp hm with hm | hm
      · exact List.mem_append_left _ (hcl f i k z hm hr hz)
      · exact absurd (Or.inr hm) hn
  refine ⟨E ++ New, kd1, ad2, rh1, muN f0 i0 New μ1 μ, hI2, fun f i hm => ?_, k ad2 hI2 hOE hcl2⟩
  by_cases hn : (f = f0 ∧ i = i0) ∨ (f, i) ∈ New
  · have e1 : muN f0 i0 New μ1 μ f i = μ1 f i := if_pos hn
    have hm2 : (f, i) ∈ (f0, i0) :: New := by
      rcases hn with ⟨rfl, rfl⟩ | hn
      · exact List.mem_cons_self
      · exact List.mem_cons_of_mem _ hn
    refine Or.inl ⟨f, i, hm2, h1' (f, i) hm2, ?_⟩
    rw [e1]
    refine g_e_cg (fun k0 hk0 => ?_)
    cases hz : rh1 (μ1 f i) f i k0 with
    | none => rfl
    | some z => exact congrArg some (h1' z (hclv f i k0 z hm2 hk0 hz))
  · have e1 : muN f0 i0 New μ1 μ f i = μ f i := if_neg hn
    have hmE : (f, i) ∈ E := by
      rcases List.mem_append.mp hm with hm | hm
      · exact hm
      · exact absurd (Or.inr hm) hn
    refine Or.inr ⟨f, i, hmE, fun a b hab z => ?_, hOE f i hmE, ?_⟩
    · obtain ⟨rfl, rfl⟩ := hs a b hab
      obtain ⟨e2, e3⟩ := Prod.mk.inj (gI_mem hI (p := (a, b)) (q := (f, i)) hE hmE z)
      exact hn (Or.inl ⟨e2.symm, e3.symm⟩)
    · rw [e1]
      refine g_e_cg (fun k0 hk0 => ?_)
      cases hz : rh1 (μ f i) f i k0 with
      | none => rfl
      | some z => exact congrArg some (hOE z.1 z.2 (hcl f i k0 z hmE hk0 hz))
end IC
