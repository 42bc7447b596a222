/-! The class: the network; the messages through their pointers. -/
theorem bit_one (y : BitVec 32) : y &&& 1#32 = 1#32 ↔ y.getLsbD 0 = true := by
  constructor
  · intro h
    have := congrArg (fun z : BitVec 32 => z.getLsbD 0) h
    simpa using this
  · intro h
    apply BitVec.eq_of_getLsbD_eq
    intro i hi
    rw [BitVec.getLsbD_and]
    by_cases z : i = 0
    · subst z; rw [h]; rfl
    · have : (1#32).getLsbD i = false := by
        rw [BitVec.getLsbD_one]; simp [z]
      rw [this, Bool.and_false]
theorem cut_sh : ∀ k : Fin 25, ((Int32.ofNat k.val &&& 31).toBitVec.smod 32).toNat = k.val := by decide +kernel
theorem cut_bit (x : Int32) {k : Nat} (hk : k < 25) : ((x >>> (Int32.ofNat k &&& 31)) &&& 1 = 1) ↔ x.toBitVec.getLsbD k = true := by
  have h1 : ((x >>> (Int32.ofNat k &&& 31)) &&& 1).toBitVec = x.toBitVec.sshiftRight k &&& 1#32 := by
    rw [Int32.toBitVec_and, Int32.toBitVec_shiftRight, BitVec.sshiftRight', cut_sh ⟨k, hk⟩]; rfl
  rw [← Int32.toBitVec_inj, h1]
  refine (bit_one _).trans ?_
  rw [BitVec.getLsbD_sshiftRight]
  have e : decide (32 ≤ 0) = false := rfl
  rw [e, if_pos (by omega), Nat.add_zero]
  simp
/-- the number of the message at a place: 0 to 39 in the rows, 40 the draft, 41 the taken one -/
def nwP (μ : gM) (q i : Nat) : Nat := if i < 40 then (μ 10 q i).toNatClampNeg else if i = 40 then (μ 9 q 1).toNatClampNeg else (μ 9 q 2).toNatClampNeg
/-- the places hold the messages of the cluster, each once -/
def NWq (μ : gM) (q : Nat) : Prop := (∀ i, i < 42 → 42 * q ≤ nwP μ q i ∧ nwP μ q i < 42 * q + 42) ∧ ∀ i j, i < 42 → j < 42 → nwP μ q i = nwP μ q j → i = j
def NW (μ : gM) (q : Nat) (S : sqSt) : Prop :=
  NWq μ q ∧ (μ 9 q 3).toInt = ((zms S).length : Int) ∧ (zms S).length ≤ 40 ∧ (∀ i j, i < 5 → j < 5 → (μ 9 q 4).toBitVec.getLsbD (i * 5 + j) = zcu S i j) ∧ (μ 9 q 5).toInt = (zde S : Int) ∧ μ 9 q 6 = zst S 1 ∧ μ 9 q 7 = zst S 2 ∧ ∀ (i : Nat) (m : sqMs), (zms S)[i]? = some m → BM μ (nwP μ q i) (zg S) m
theorem NWq.perm {μ μ' : gM} {q : Nat} (h : NWq μ q) (σ : Nat → Nat) (h1 : ∀ i, i < 42 → nwP μ' q i = nwP μ q (σ i)) (h2 : ∀ i, i < 42 → σ i < 42) (h3 : ∀ i j, i < 42 → j < 42 → σ i = σ j → i = j) : NWq μ' q :=
  ⟨fun i hi => by rw [h1 i hi]; exact h.1 _ (h2 i hi), fun i j hi hj e => h3 i j hi hj (h.2 _ _ (h2 i hi) (h2 j hj) (by rw [← h1 i hi, ← h1 j hj]; exact e))⟩
theorem nwP_lt {μ : gM} {q i : Nat} (h : i < 40) : nwP μ q i = (μ 10 q i).toNatClampNeg := if_pos h
theorem nwP_40 {μ : gM} {q : Nat} : nwP μ q 40 = (μ 9 q 1).toNatClampNeg := rfl
theorem nwP_41 {μ : gM} {q : Nat} : nwP μ q 41 = (μ 9 q 2).toNatClampNeg := rfl
theorem nwP_cg {μ μ' : gM} {q i : Nat} (h1 : i < 40 → μ' 10 q i = μ 10 q i) (h2 : i = 40 → μ' 9 q 1 = μ 9 q 1) (h3 : 41 ≤ i → μ' 9 q 2 = μ 9 q 2) : nwP μ' q i = nwP μ q i := by
  unfold nwP
  by_cases q1 : i < 40
  · rw [if_pos q1, if_pos q1, h1 q1]
  · rw [if_neg q1, if_neg q1]
    by_cases q2 : i = 40
    · rw [if_pos q2, if_pos q2, h2 q2]
    · rw [if_neg q2, if_neg q2, h3 (by omega)]
section SqClw
variable {μ μ' μ1 : gM} {n g b k i nc B t t1 s q : Nat} {l : List sqE} {a1 a2 a3 : Int32} {e : sqE} {m : sqMs} {S : sqSt}
theorem mX3_isCut_ok (h : NW μ q S) {c d : Nat} (hc : c < 5) (hd : d < 5) (h1 : a1.toInt = (c : Int)) (h2 : a2.toInt = (d : Int)) : gOk (mX3_isCut nc q a1 a2 μ) (fun r => r = if zcu S c d = true then 1 else 0) := by
  unfold mX3_isCut
  have e : (a1 * 5 + a2).toInt = ((c * 5 + d : Nat) : Int) := by
    rw [ti_add (ti_mul (y := 5) (b := 5) h1 rfl (by omega) (by omega)) h2 (by omega) (by omega)]; omega
  rw [ti_of e]
  have cb := cut_bit (μ 9 q 4) (k := c * 5 + d) (by omega)
  rw [h.2.2.2.1 c d hc hd] at cb
  refine gOk_if (fun z => gOk_some ?_) (fun z => gOk_some ?_)
  · rw [if_pos (cb.mp z)]
  · rw [if_neg (fun w => z (cb.mpr w))]
theorem mX3_has_ok (h : NW μ q S) {w : Int} (h1 : a1.toInt = w) : gOk (mX3_has nc q a1 μ) (fun r => r = if 0 ≤ w ∧ w < (zms S).length then 1 else 0) := by
  have hl := h.2.2.1
  unfold mX3_has
  refine gOk_lt h1 (y := 0) (b := 0) rfl (fun q1 => gOk_some ?_) (fun q1 => gOk_le h.2.1 h1 (fun q2 => gOk_some ?_) (fun q2 => gOk_le (x := 40) (a := 40) rfl h1 (fun q3 => absurd q3 (by omega)) (fun q3 => gOk_some ?_)))
  · rw [if_neg (by omega)]
  · rw [if_neg (by omega)]
  · rw [if_pos (by omega)]
theorem NW.num (h : NW μ q S) (hq : q < nc) (hi : i < 42) : nwP μ q i < 42 * nc := by
  have := (h.1.1 i hi).2
  have : 42 * q + 42 ≤ 42 * nc := by omega
  omega
theorem mX3_isDue_ok (h : NW μ q S) (hq : q < nc) {w : Nat} (h1 : a1.toInt = (w : Int)) {ti : Int} (h2 : a2.toInt = ti) : gOk (mX3_isDue nc q a1 a2 μ) (fun r => (∀ m, (zms S)[w]? = some m → r = if (mdu m : Int) ≤ ti then 1 else 0) ∧ ((zms S)[w]? = none → r = 0)) := by
  have hl := h.2.2.1
  unfold mX3_isDue
  refine gOk_lt h1 (y := 0) (b := 0) rfl (fun q1 => absurd q1 (by omega)) (fun q1 => gOk_le h.2.1 h1 (fun q2 => gOk_some ⟨fun m hm => absurd (List.getElem?_eq_some_iff.mp hm).1 (by omega), fun _ => rfl⟩) (fun q2 => gOk_le (x := 40) (a := 40) rfl h1 (fun q3 => absurd q3 (by omega)) (fun q3 => ?_)))
  have hw : w < (zms S).length := by omega
  have hm : (zms S)[w]? = some (zms S)[w] := List.getElem?_eq_getElem hw
  refine gOk_chk (ti_inb h1 (by omega)) ?_
  rw [ti_cl h1, ← nwP_lt (by omega)]
  refine gOk_let (gOk_chk (h.num hq (by omega)) ?_)
  have bm := (h.2.2.2.2.2.2.2 w _ hm).2.2.2.2.1
  refine gOk_lt h2 bm (fun q4 => gOk_some ⟨fun m hm' => ?_, fun z => absurd (hm.symm.trans z) (by simp)⟩) (fun q4 => gOk_some ⟨fun m hm' => ?_, fun z => absurd (hm.symm.trans z) (by simp)⟩)
  · cases Option.some.inj (hm.symm.trans hm'); rw [if_neg (by omega)]
  · cases Option.some.inj (hm.symm.trans hm'); rw [if_pos (by omega)]
/-- the cells of the network -/
def npP (q : Nat) : Nat → Nat → Nat → Prop := fun f i j => i = q ∧ (f = 9 ∧ 1 ≤ j ∨ f = 10)
theorem BM.np (hm : BM μ t g m) (F : gFr (npP q) μ μ') : BM μ' t g m := hm.cg (fun j _ _ => F 19 t j (fun z => by have := z.2; omega)) (fun f j _ _ _ => F f t j (fun z => by have := z.2; omega))
theorem NW.st (h : NW μ q S) {c : Nat} (hc : c = 1 ∨ c = 2) (x : Int32) : NW (w3 μ 9 q (5 + c) (μ 9 q (5 + c) + x)) q (zS S c x) := by
  obtain ⟨k1, k2, k3, k4, k5, k6, k7, k8⟩ := h
  have hp : ∀ i, nwP (w3 μ 9 q (5 + c) (μ 9 q (5 + c) + x)) q i = nwP μ q i := fun i => nwP_cg (fun _ => w3_o _ _ (by omega)) (fun _ => w3_o _ _ (by omega)) (fun _ => w3_o _ _ (by omega))
  refine ⟨k1.perm (fun i => i) (fun i _ => hp i) (fun i hi => hi) (fun i j _ _ e => e), by rw [w3_o _ _ (by omega)]; exact k2, k3, fun i j hi hj => by rw [w3_o _ _ (by omega)]; exact k4 i j hi hj, by rw [w3_o _ _ (by omega)]; exact k5, ?_, ?_, fun i m hm => by rw [hp i]; exact (k8 i m hm).cg (fun j _ _ => w3_o _ _ (by omega)) (fun f j _ _ _ => w3_o _ _ (by omega))⟩
  · show _ = sqU1 (zst S) c (zst S c + x) 1
    rcases hc with z | z
    · subst z; rw [w3_at, sqU1_at]; exact congrArg (· + x) k6
    · subst z; rw [w3_o _ _ (by omega), sqU1_ne (by omega)]; exact k6
  · show _ = sqU1 (zst S) c (zst S c + x) 2
    rcases hc with z | z
    · subst z; rw [w3_o _ _ (by omega), sqU1_ne (by omega)]; exact k7
    · subst z; rw [w3_at, sqU1_at]; exact congrArg (· + x) k7
theorem mX3_post_ok (h : NW μ q S) (hq : q < nc) (hnc : nc ≤ 2) (hm : BM μ (nwP μ q 40) (zg S) m) (hse : mse m < 5) (hre : mre m < 5) : gOk (mX3_post nc q μ) (fun μ' => gFr (npP q) μ μ' ∧ NW μ' q (zPost S m)) := by
  unfold mX3_post
  refine gOk_lee (fun μ1 h1 => ?_)
  have W1 : NW μ1 q (zS S 1 1) := by rw [h1]; exact h.st (c := 1) (Or.inl rfl) 1
  have F1 : gFr (npP q) μ μ1 := by rw [h1]; exact gFr.w ⟨rfl, by omega⟩
  have W1c : (μ1 9 q 3).toInt = ((zms S).length : Int) := W1.2.1
  have hlen := h.2.2.1
  refine gOk_jq (P := fun _ => zcu S (mse m) (mre m) = true ∨ 40 ≤ (zms S).length) (fun u hc => ?_) (fun j3 hj3 => ?_)
  · refine gOk_let (gOk_some ⟨F1.tr (gFr.w ⟨rfl, by omega⟩), ?_⟩)
    unfold zPost
    rw [if_pos hc]
    exact W1.st (c := 2) (Or.inr rfl) 1
  · refine gOk_lt W1c (y := 0) (b := 0) rfl (fun z => absurd z (by omega)) (fun _ => gOk_le (x := 40) (a := 40) rfl W1c (fun z => hj3 () (Or.inr (by omega))) (fun z => ?_))
    have hp40 : nwP μ1 q 40 = nwP μ q 40 := nwP_cg (fun z => absurd z (by omega)) (fun _ => by rw [h1]; exact w3_o _ _ (by omega)) (fun z => absurd z (by omega))
    have n40 : nwP μ1 q 40 < 42 * nc := W1.num hq (by omega)
    have nc1 : nwP μ1 q (zms S).length < 42 * nc := W1.num hq (by omega)
    have m1 : BM μ1 (nwP μ1 q 40) (zg S) m := by rw [hp40]; exact hm.np F1
    refine gOk_let (gOk_chk n40 (gOk_let (gOk_chk n40 (gOk_bp (mX3_isCut_ok W1 hse hre m1.2.1 m1.2.2.1) (fun r16 h16 => gOk_if (fun w => ?_) (fun w => hj3 () (Or.inl ?_)))))))
    · have hcut : ¬ zcu S (mse m) (mre m) = true := fun y => by
        rw [if_pos (show zcu (zS S 1 1) (mse m) (mre m) = true from y)] at h16
        exact absurd (h16.symm.trans w) (by decide)
      have p1 := ti_inb (n := 40) W1c (by omega)
      have e1 := nwP_lt (μ := μ1) (q := q) (i := (zms S).length) (by omega)
      simp only [ti_cl W1c]
      rw [e1] at nc1
      refine gOk_chk p1 (gOk_let (gOk_chk nc1 (gOk_let (gOk_chk n40 (gOk_chk p1 (gOk_lee (fun μ26 h26 => gOk_lee (fun μ28 h28 => gOk_lee (fun μ30 h30 => gOk_some ?_)))))))))
      rw [← e1] at nc1 h28
      have F : gFr (npP q) μ1 μ30 := by
        rw [h30, h28, h26]
        exact (gFr.w ⟨rfl, by omega⟩).tr ((gFr.w ⟨rfl, by omega⟩).tr (gFr.w ⟨rfl, by omega⟩))
      have c3 : μ28 9 q 3 = μ1 9 q 3 := by rw [h28, w3_o _ _ (by omega), h26, w3_o _ _ (by omega)]
      rw [c3] at h30
      have ac : nwP μ30 q (zms S).length = nwP μ1 q 40 := by
        rw [nwP_lt (by omega), h30, w3_o _ _ (by omega), h28, w3_o _ _ (by omega), h26, w3_at]
        exact gNI hnc n40
      have a40 : nwP μ30 q 40 = nwP μ1 q (zms S).length := by
        rw [nwP_40, h30, w3_o _ _ (by omega), h28, w3_at]
        exact gNI hnc nc1
      have ao : ∀ i, i ≠ (zms S).length → i ≠ 40 → nwP μ30 q i = nwP μ1 q i := fun i i1 i2 => nwP_cg (fun _ => by rw [h30, w3_o _ _ (by omega), h28, w3_o _ _ (by omega), h26, w3_o _ _ (by omega)]) (fun z => absurd z i2) (fun _ => by rw [h30, w3_o _ _ (by omega), h28, w3_o _ _ (by omega), h26, w3_o _ _ (by omega)])
      obtain ⟨k1, k2, k3, k4, k5, k6, k7, k8⟩ := W1
      refine ⟨F1.tr F, ?_⟩
      unfold zPost
      rw [if_neg (fun y => y.elim hcut (fun y => by omega))]
      have hlen2 : (zms S ++ [m]).length = (zms S).length + 1 := by rw [List.length_append]; rfl
      refine ⟨k1.perm (fun i => if i = (zms S).length then 40 else if i = 40 then (zms S).length else i) (fun i _ => ?_) (fun i hi => ?_) (fun i j hi hj e => ?_), ?_, ?_, fun i j hi hj => ?_, ?_, ?_, ?_, fun i m' hm' => ?_⟩
      · show nwP μ30 q i = nwP μ1 q (if i = (zms S).length then 40 else if i = 40 then (zms S).length else i)
        by_cases i1 : i = (zms S).length
        · rw [if_pos i1, i1]; exact ac
        · rw [if_neg i1]
          by_cases i2 : i = 40
          · rw [if_pos i2, i2]; exact a40
          · rw [if_neg i2]; exact ao i i1 i2
      · show (if i = (zms S).length then 40 else if i = 40 then (zms S).length else i) < 42
        split
        · omega
        · split <;> omega
      · revert e
        show (if i = (zms S).length then 40 else if i = 40 then (zms S).length else i) = (if j = (zms S).length then 40 else if j = 40 then (zms S).length else j) → i = j
        split <;> split <;> (try split) <;> (try split) <;> omega
      · show (μ30 9 q 3).toInt = ((zms S ++ [m]).length : Int)
        rw [hlen2, h30, w3_at, ti_add W1c (y := 1) (b := 1) rfl (by omega) (by omega)]; omega
      · show (zms S ++ [m]).length ≤ 40
        omega
      · rw [h30, w3_o _ _ (by omega), h28, w3_o _ _ (by omega), h26, w3_o _ _ (by omega)]; exact k4 i j hi hj
      · rw [h30, w3_o _ _ (by omega), h28, w3_o _ _ (by omega), h26, w3_o _ _ (by omega)]; exact k5
      · rw [h30, w3_o _ _ (by omega), h28, w3_o _ _ (by omega), h26, w3_o _ _ (by omega)]; exact k6
      · rw [h30, w3_o _ _ (by omega), h28, w3_o _ _ (by omega), h26, w3_o _ _ (by omega)]; exact k7
      · have hm2 : (zms S ++ [m])[i]? = some m' := hm'
        rw [List.getElem?_append] at hm2
        by_cases i1 : i < (zms S).length
        · rw [if_pos i1] at hm2
          rw [ao i (by omega) (by omega)]
          exact (k8 i m' hm2).np F
        · rw [if_neg i1] at hm2
          rcases Nat.eq_zero_or_pos (i - (zms S).length) with y | y
          · rw [y] at hm2
            cases Option.some.inj hm2
            rw [show i = (zms S).length by omega, ac]
            exact m1.np F
          · rw [List.getElem?_eq_none (by show 1 ≤ _; omega)] at hm2
            cases hm2
    · rw [h16] at w
      by_cases y : zcu (zS S 1 1) (mse m) (mre m) = true
      · exact y
      · rw [if_neg y] at w; exact absurd rfl w
end SqClw
