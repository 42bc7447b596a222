/-! The class: a cluster in its cells. -/
/-- the cells of a cluster -/
def rbP (q : Nat) : Nat → Nat → Nat → Prop := fun f i _ => i = q ∧ (f = 6 ∨ 8 ≤ f ∧ f ≤ 10) ∨ (5 * q ≤ i ∧ i < 5 * q + 5) ∧ 11 ≤ f ∧ f ≤ 18 ∨ (42 * q ≤ i ∧ i < 42 * q + 42) ∧ 19 ≤ f ∧ f ≤ 22
/-- a cluster is the state S -/
def RB (μ : gM) (q : Nat) (S : sqSt) : Prop :=
  NW μ q S ∧ (∀ n, n < 5 → BN μ (5 * q + n) n (zg S) (zno S n)) ∧ μ 6 q 3 = zse S ∧ (μ 6 q 4).toInt = (zti S : Int) ∧ (∀ c, 3 ≤ c → c ≤ 6 → μ 6 q (2 + c) = zst S c) ∧ ∀ t, t < 100 → μ 8 q t = zwi S t
theorem bnP_rb {q n : Nat} (hn : n < 5) : ∀ f i j, bnP (5 * q + n) f i j → rbP q f i j := fun _ _ _ h => Or.inr (Or.inl ⟨by have := h.1; omega, by have := h.2; omega⟩)
theorem npP_rb {q : Nat} : ∀ f i j, npP q f i j → rbP q f i j := fun _ _ _ h => Or.inl ⟨h.1, by have := h.2; omega⟩
theorem mgP_rb {q t : Nat} (h1 : 42 * q ≤ t) (h2 : t < 42 * q + 42) : ∀ f i j, mgP t f i j → rbP q f i j := fun _ _ _ h => Or.inr (Or.inr ⟨by have := h.1; omega, by have := h.2; omega⟩)
section SqCla
variable {μ μ' μ1 : gM} {n g b k i nc B t t1 s q : Nat} {l : List sqE} {a1 a2 a3 : Int32} {e : sqE} {m : sqMs} {S S' : sqSt} {N : sqN}
theorem BN.same (h : BN μ k n g N) (F : ∀ f j, 11 ≤ f → f ≤ 18 → μ' f k j = μ f k j) : BN μ' k n g N := by
  refine ⟨h.1.cg (fun f j z => F f j (by omega) (by omega)), ?_⟩
  obtain ⟨h6, h10, h11, h13⟩ := h.2
  unfold BN1
  rw [F 11 6 (by omega) (by omega), F 11 10 (by omega) (by omega), F 11 11 (by omega) (by omega)]
  refine ⟨h6, h10, h11, fun r u hu => ?_⟩
  rw [F 13 u (by omega) (by omega), F 14 u (by omega) (by omega), F 15 u (by omega) (by omega)]
  exact h13 r u hu
theorem NW.cg (h : NW μ q S) (e9 : ∀ j, μ' 9 q j = μ 9 q j) (e10 : ∀ j, μ' 10 q j = μ 10 q j) (em : ∀ f i j, 19 ≤ f → f ≤ 22 → μ' f i j = μ f i j) (d1 : zms S' = zms S := by rfl) (d2 : zcu S' = zcu S := by rfl) (d3 : zde S' = zde S := by rfl) (d4 : zst S' 1 = zst S 1 := by rfl) (d5 : zst S' 2 = zst S 2 := by rfl) (d6 : zg S' = zg S := by rfl) : NW μ' q S' := by
  have hp : ∀ i, nwP μ' q i = nwP μ q i := fun i => nwP_cg (fun _ => e10 i) (fun _ => e9 1) (fun _ => e9 2)
  unfold NW
  rw [d1, d2, d3, d4, d5, d6, e9 3, e9 4, e9 5, e9 6, e9 7]
  obtain ⟨k1, k2, k3, k4, k5, k6, k7, k8⟩ := h
  exact ⟨k1.perm (fun i => i) (fun i _ => hp i) (fun i hi => hi) (fun i j _ _ e => e), k2, k3, k4, k5, k6, k7, fun i m hm => by rw [hp i]; exact (k8 i m hm).cg (fun j _ _ => em 19 _ j (by omega) (by omega)) (fun f j _ _ _ => em f _ j (by omega) (by omega))⟩
/-- a node changes -/
theorem RB.node (h : RB μ q S) (hn : n < 5) (F : gFr (bnP (5 * q + n)) μ μ') (hb : BN μ' (5 * q + n) n (zg S) N) : RB μ' q (zN S n N) := by
  obtain ⟨w, bn, c3, c4, c5, c8⟩ := h
  have o : ∀ f i j, (f ≤ 10 ∨ 19 ≤ f ∨ i ≠ 5 * q + n) → μ' f i j = μ f i j := fun f i j z => F f i j (fun y => by have := y.1; have := y.2; omega)
  refine ⟨w.cg (fun j => o 9 q j (by omega)) (fun j => o 10 q j (by omega)) (fun f i j _ _ => o f i j (by omega)), fun n' hn' => ?_, by rw [o 6 q 3 (by omega)]; exact c3, by rw [o 6 q 4 (by omega)]; exact c4, fun c h1 h2 => by rw [o 6 q _ (by omega)]; exact c5 c h1 h2, fun t ht => by rw [o 8 q t (by omega)]; exact c8 t ht⟩
  show BN μ' (5 * q + n') n' (zg S) (sqU1 (zno S) n N n')
  by_cases z : n' = n
  · subst z; rw [sqU1_at]; exact hb
  · rw [sqU1_ne z]; exact (bn n' hn').same (fun f j _ _ => o f _ j (by omega))
/-- the network or a message that is in none of the rows changes -/
theorem RB.net (h : RB μ q S) (hw : NW μ' q S') (F : ∀ f i j, f ≤ 8 ∨ 11 ≤ f ∧ f ≤ 18 → μ' f i j = μ f i j) (d1 : zno S' = zno S := by rfl) (d2 : zse S' = zse S := by rfl) (d3 : zti S' = zti S := by rfl) (d4 : ∀ c, 3 ≤ c → zst S' c = zst S c := by intros; rfl) (d5 : zwi S' = zwi S := by rfl) (d6 : zg S' = zg S := by rfl) : RB μ' q S' := by
  obtain ⟨w, bn, c3, c4, c5, c8⟩ := h
  unfold RB
  rw [d1, d2, d3, d5, d6, F 6 q 3 (by omega), F 6 q 4 (by omega)]
  exact ⟨hw, fun n hn => (bn n hn).same (fun f j _ _ => F f _ j (by omega)), c3, c4, fun c h1 h2 => by rw [F 6 q _ (by omega), d4 c h1]; exact c5 c h1 h2, fun t ht => by rw [F 8 q t (by omega)]; exact c8 t ht⟩
theorem mX0_resetTimer_ok (h : RB μ q S) (hn : n < 5) : gOk (mX0_resetTimer nc q (5 * q + n) μ) (fun μ' => gFr (bnP (5 * q + n)) μ μ' ∧ RB μ' q (zN S n (nTi (zno S n) (zTim S n (ntm (zno S n)))))) := by
  have hb := h.2.1 n hn
  have ex : 8 + ((ushr ((((μ 6 q 3) + (5 * (μ 11 (5 * q + n) 7))) + (μ 11 (5 * q + n) 0)) * (-1640531527)) 20) &&& 7) = zTim S n (ntm (zno S n)) := by
    rw [h.2.2.1, ti_of hb.1.2.2.1, ti_of hb.1.1]; rfl
  have key : ∀ x y : Int32, 8 + (x &&& 7) = y → gFr (bnP (5 * q + n)) μ (w3 μ 11 (5 * q + n) 10 (8 + (x &&& 7))) ∧ RB (w3 μ 11 (5 * q + n) 10 (8 + (x &&& 7))) q (zN S n (nTi (zno S n) y)) := by
    intro x y hy
    rw [hy]
    have F : gFr (bnP (5 * q + n)) μ (w3 μ 11 (5 * q + n) 10 y) := gFr.w ⟨rfl, by omega⟩
    refine ⟨F, h.node hn F ⟨hb.1.cg (fun f j z => w3_o _ _ (by omega)), by rw [w3_o _ _ (by omega)]; exact hb.2.1, by rw [w3_at]; rfl, fun r => by rw [w3_o _ _ (by omega)]; exact hb.2.2.2.1 r, fun r u hu => ?_⟩⟩
    rw [w3_o _ _ (by omega), w3_o _ _ (by omega), w3_o _ _ (by omega)]
    exact hb.2.2.2.2 r u hu
  unfold mX0_resetTimer
  exact gOk_let (gOk_let (gOk_some (key _ _ ex)))
end SqCla
