/-! The reference's row of numbers as the state; its small methods that read. -/
theorem upd_at (r : Nat → Int32) (k : Nat) (v : Int32) : upd r k v k = v := by simp [upd]
theorem upd_ne (r : Nat → Int32) {k j : Nat} (v : Int32) (h : j ≠ k) : upd r k v j = r j := by simp [upd, h]
def zVo (o : Option Nat) : Int := match o with
  | none => -1
  | some c => c
/-- what a row of numbers from a place on says of a node, but for what depends on its role -/
def RN0 (r : Nat → Int32) (g : Nat) (N : sqN) : Prop :=
  (r 0).toInt = (if nup N then 1 else 0) ∧ (r 2).toInt = ntm N ∧ (r 3).toInt = zVo (nvo N) ∧ (r 4).toInt = ncm N ∧
  (r 7).toInt = nbs N ∧ (r 8).toInt = sqTT (nlg N) (nbs N) ∧ r 9 = sqR ((nlg N).take (nbs N)) ∧ (r 10).toInt = (sqF g ((nlg N).take (nbs N))).1 ∧ (r 11).toInt = (sqF g ((nlg N).take (nbs N))).2 ∧
  (r 12).toInt = ((nlg N).length : Int) - nbs N ∧ (nlg N).length ≤ nbs N + 24 ∧
  (∀ (j : Nat) (e : sqE), (nlg N)[nbs N + j]? = some e → (r (28 + 3 * j)).toInt = sqT e ∧ (r (28 + 3 * j + 1)).toInt = e.2.1 ∧ r (28 + 3 * j + 2) = e.2.2)
def RN1 (r : Nat → Int32) (N : sqN) : Prop :=
  (r 1).toInt = nro N ∧ r 5 = nti N ∧ (nro N = 1 → (r 6).toInt = sqMk (nvs N)) ∧ (nro N = 2 → ∀ u, u < 5 → (r (13 + u)).toInt = nnx N u ∧ (r (18 + u)).toInt = nmt N u ∧ (r (23 + u)).toInt = nec N u)
def RN (r : Nat → Int32) (g : Nat) (N : sqN) : Prop := RN0 r g N ∧ RN1 r N
/-- of a message -/
def RM (r : Nat → Int32) (g : Nat) (m : sqMs) : Prop :=
  (r 0).toInt = mki m ∧ (r 1).toInt = mse m ∧ (r 2).toInt = mre m ∧ (r 3).toInt = mtm m ∧ (r 4).toInt = mdu m ∧ (r 5).toInt = mix m ∧ (r 6).toInt = mfl m ∧ (r 7).toInt = mto m ∧
  (mki m = 2 → (r 8).toInt = mbf m ∧ (r 9).toInt = mcm m ∧ ∀ (k : Nat) (e : sqE), (mes m)[k]? = some e → (r (13 + 3 * k)).toInt = sqT e ∧ (r (13 + 3 * k + 1)).toInt = e.2.1 ∧ r (13 + 3 * k + 2) = e.2.2) ∧
  (mki m = 4 → r 10 = sqR (mes m) ∧ (r 11).toInt = (sqF g (mes m)).1 ∧ (r 12).toInt = (sqF g (mes m)).2)
def rN (A : Nat → Int32) (n : Nat) : Nat → Int32 := fun k => A (116 + 100 * n + k)
def rM (A : Nat → Int32) (i : Nat) : Nat → Int32 := fun k => A (616 + 25 * i + k)
def RG (A : Nat → Int32) (S : sqSt) : Prop :=
  (A 0).toInt = zti S ∧ (A 1).toInt = zde S ∧ A 2 = zse S ∧ (A 3).toInt = (zms S).length ∧ (∀ i, i < 5 → (A (4 + i)).toInt = sqMk (zcu S i)) ∧ (∀ k, 1 ≤ k → k ≤ 6 → A (9 + k) = zst S k) ∧ (∀ t, t < 100 → A (16 + t) = zwi S t)
def RA (A : Nat → Int32) (S : sqSt) : Prop := RG A S ∧ (∀ n, n < 5 → RN (rN A n) (zg S) (zno S n)) ∧ ∀ (i : Nat) (m : sqMs), (zms S)[i]? = some m → RM (rM A i) (zg S) m
section SqRef
variable {μ : gM} {S : sqSt} {B n k i : Nat} {a1 a2 a3 : Int32} {N : sqN}
theorem mX7_ix (h1 : a1.toInt = (n : Int)) (h2 : a2.toInt = (k : Int)) (hn : n < 5) (hk : k < 100) : ((116 + (a1 * 100)) + a2).toInt = ((116 + 100 * n + k : Nat) : Int) := by
  have e := ti_add (ti_add (a := 116) (x := 116) rfl (ti_mul (b := 100) (y := 100) h1 rfl (by omega) (by omega)) (by omega) (by omega)) h2 (by omega) (by omega)
  rw [e]; omega
theorem mX7_of_ok (μ : gM) (h1 : a1.toInt = (n : Int)) (h2 : a2.toInt = (k : Int)) (hn : n < 5) (hk : k < 100) : mX7_of a1 a2 μ = some (rN (μ 1 0) n k) := by
  have e := mX7_ix h1 h2 hn hk
  unfold mX7_of gChk
  rw [if_pos (ti_inb e (by omega)), ti_cl e]
  rfl
theorem mX7_set_ok (μ : gM) (h1 : a1.toInt = (n : Int)) (h2 : a2.toInt = (k : Int)) (hn : n < 5) (hk : k < 100) : mX7_set a1 a2 a3 μ = some (w3 μ 1 0 (116 + 100 * n + k) a3) := by
  have e := mX7_ix h1 h2 hn hk
  unfold mX7_set gChk
  rw [if_pos (ti_inb e (by omega)), ti_cl e]
  rfl
theorem rN_upd (A : Nat → Int32) (n k : Nat) (v : Int32) : rN (upd A (116 + 100 * n + k) v) n = upd (rN A n) k v := by
  funext j
  unfold rN upd
  by_cases h : j = k
  · rw [if_pos h, if_pos (by omega)]
  · rw [if_neg h, if_neg (by omega)]
theorem RN0.cg {r r' : Nat → Int32} {g : Nat} (h : RN0 r g N) (e : ∀ k, k < 100 → (k = 0 ∨ (2 ≤ k ∧ k ≤ 4) ∨ (7 ≤ k ∧ k ≤ 12) ∨ 28 ≤ k) → r' k = r k) : RN0 r' g N := by
  obtain ⟨h1, h2, h3, h4, h5, h6, h7, h8, h9, h10, h11, h12⟩ := h
  refine ⟨by rw [e 0 (by omega) (by omega)]; exact h1, by rw [e 2 (by omega) (by omega)]; exact h2, by rw [e 3 (by omega) (by omega)]; exact h3, by rw [e 4 (by omega) (by omega)]; exact h4, by rw [e 7 (by omega) (by omega)]; exact h5, by rw [e 8 (by omega) (by omega)]; exact h6, by rw [e 9 (by omega) (by omega)]; exact h7, by rw [e 10 (by omega) (by omega)]; exact h8, by rw [e 11 (by omega) (by omega)]; exact h9, by rw [e 12 (by omega) (by omega)]; exact h10, h11, ?_⟩
  intro j f hj
  have := sq_lt hj
  rw [e (28 + 3 * j) (by omega) (by omega), e (28 + 3 * j + 1) (by omega) (by omega), e (28 + 3 * j + 2) (by omega) (by omega)]
  exact h12 j f hj
theorem RN1.cg {r r' : Nat → Int32} (h : RN1 r N) (e : ∀ k, k < 100 → (k = 1 ∨ k = 5 ∨ k = 6 ∨ (13 ≤ k ∧ k < 28)) → r' k = r k) : RN1 r' N := by
  obtain ⟨h1, h2, h3, h4⟩ := h
  refine ⟨by rw [e 1 (by omega) (by omega)]; exact h1, by rw [e 5 (by omega) (by omega)]; exact h2, fun q => by rw [e 6 (by omega) (by omega)]; exact h3 q, fun q u hu => ?_⟩
  rw [e (13 + u) (by omega) (by omega), e (18 + u) (by omega) (by omega), e (23 + u) (by omega) (by omega)]
  exact h4 q u hu
theorem RM.cg {r r' : Nat → Int32} {g : Nat} {m : sqMs} (h : RM r g m) (hl : mki m = 2 → (mes m).length ≤ 4) (e : ∀ k, k < 25 → r' k = r k) : RM r' g m := by
  obtain ⟨h1, h2, h3, h4, h5, h6, h7, h8, h9, h10⟩ := h
  refine ⟨by rw [e 0 (by omega)]; exact h1, by rw [e 1 (by omega)]; exact h2, by rw [e 2 (by omega)]; exact h3, by rw [e 3 (by omega)]; exact h4, by rw [e 4 (by omega)]; exact h5, by rw [e 5 (by omega)]; exact h6, by rw [e 6 (by omega)]; exact h7, by rw [e 7 (by omega)]; exact h8, fun q => ?_, fun q => ?_⟩
  · rw [e 8 (by omega), e 9 (by omega)]
    obtain ⟨a, b, c⟩ := h9 q
    refine ⟨a, b, fun k f hk => ?_⟩
    have := sq_lt hk
    have := hl q
    rw [e (13 + 3 * k) (by omega), e (13 + 3 * k + 1) (by omega), e (13 + 3 * k + 2) (by omega)]
    exact c k f hk
  · rw [e 10 (by omega), e 11 (by omega), e 12 (by omega)]
    exact h10 q
theorem mX7_last_r (R : RN (rN (μ 1 0) n) (zg S) (zno S n)) (L : LI B S) (hB : B < 1000000000) (hn : n < 5) (h1 : a1.toInt = (n : Int)) : gOk (mX7_last a1 μ) (fun r => r.toInt = (nlg (zno S n)).length) := by
  obtain ⟨⟨r1, r2, r3, r4, r5, r6, r7, r8, r9, r10, r11, r12⟩, -⟩ := R
  have hl := (L.2.2.2.1 n hn).2.1
  unfold mX7_last
  refine gOk_be (mX7_of_ok μ h1 (k := 7) rfl hn (by omega)) (gOk_be (mX7_of_ok μ h1 (k := 12) rfl hn (by omega)) (gOk_some ?_))
  rw [ti_add r5 r10 (by omega) (by omega)]
  omega
/-- a part of an entry -/
def sqP (e : sqE) (p : Nat) (x : Int32) : Prop := (p = 0 → x.toInt = sqT e) ∧ (p = 1 → x.toInt = e.2.1) ∧ (p = 2 → x = e.2.2)
theorem mX7_entryOf_r (R : RN (rN (μ 1 0) n) (zg S) (zno S n)) (L : LI B S) (hB : B < 1000000000) (hn : n < 5) (h1 : a1.toInt = (n : Int)) {j p : Nat} {e : sqE} (hj : (nlg (zno S n))[j]? = some e) (hb : nbs (zno S n) ≤ j) (h2 : a2.toInt = ((j + 1 : Nat) : Int)) (h3 : a3.toInt = (p : Int)) (hp : p < 3) : gOk (mX7_entryOf a1 a2 a3 μ) (sqP e p) := by
  obtain ⟨⟨r1, r2, r3, r4, r5, r6, r7, r8, r9, r10, r11, r12⟩, -⟩ := R
  have hl := (L.2.2.2.1 n hn).2.1
  have hlt := sq_lt hj
  unfold mX7_entryOf
  refine gOk_be (mX7_of_ok μ h1 (k := 7) rfl hn (by omega)) ?_
  have e1 := ti_sub (ti_sub h2 r5 (by omega) (by omega)) (y := 1) (b := 1) rfl (by omega) (by omega)
  have e2 := ti_add (x := 28) (a := 28) rfl (ti_mul (x := 3) (a := 3) rfl e1 (by omega) (by omega)) (by omega) (by omega)
  have e3 := ti_add e2 h3 (by omega) (by omega)
  have e4 : ((28 + (3 * ((a2 - rN (μ 1 0) n 7) - 1))) + a3).toInt = ((28 + 3 * (j - nbs (zno S n)) + p : Nat) : Int) := by rw [e3]; omega
  refine gOk_be (mX7_of_ok μ h1 e4 hn (by omega)) (gOk_some ?_)
  have h := r12 (j - nbs (zno S n)) e (by rw [show nbs (zno S n) + (j - nbs (zno S n)) = j by omega]; exact hj)
  refine ⟨fun q => ?_, fun q => ?_, fun q => ?_⟩
  · subst q; exact h.1
  · subst q; exact h.2.1
  · subst q; exact h.2.2
theorem mX7_termAt_r (R : RN (rN (μ 1 0) n) (zg S) (zno S n)) (L : LI B S) (hB : B < 1000000000) (hn : n < 5) (h1 : a1.toInt = (n : Int)) {ix : Nat} (h2 : a2.toInt = (ix : Int)) (hb : nbs (zno S n) ≤ ix) (hl : ix ≤ (nlg (zno S n)).length) : gOk (mX7_termAt a1 a2 μ) (fun r => r.toInt = sqTT (nlg (zno S n)) ix) := by
  have R' := R
  obtain ⟨⟨r1, r2, r3, r4, r5, r6, r7, r8, r9, r10, r11, r12⟩, -⟩ := R'
  unfold mX7_termAt
  refine gOk_be (mX7_of_ok μ h1 (k := 7) rfl hn (by omega)) (gOk_eq h2 r5 (fun q => ?_) (fun q => ?_))
  · refine gOk_be (mX7_of_ok μ h1 (k := 8) rfl hn (by omega)) (gOk_some ?_)
    rw [r6, show ix = nbs (zno S n) by omega]
  · have hj : (nlg (zno S n))[ix - 1]? = some ((nlg (zno S n))[ix - 1]'(by omega)) := List.getElem?_eq_getElem (by omega)
    refine gOk_bp (mX7_entryOf_r R L hB hn h1 hj (by omega) (p := 0) (by rw [h2]; omega) rfl (by omega)) (fun r hr => gOk_some ?_)
    rw [hr.1 rfl, ← sqTT_some hj, show ix - 1 + 1 = ix by omega]
theorem mX7_last_ok (R : RA (μ 1 0) S) (L : LI B S) (hB : B < 1000000000) (hn : n < 5) (h1 : a1.toInt = (n : Int)) : gOk (mX7_last a1 μ) (fun r => r.toInt = (nlg (zno S n)).length) := mX7_last_r (R.2.1 n hn) L hB hn h1
theorem mX7_entryOf_ok (R : RA (μ 1 0) S) (L : LI B S) (hB : B < 1000000000) (hn : n < 5) (h1 : a1.toInt = (n : Int)) {j p : Nat} {e : sqE} (hj : (nlg (zno S n))[j]? = some e) (hb : nbs (zno S n) ≤ j) (h2 : a2.toInt = ((j + 1 : Nat) : Int)) (h3 : a3.toInt = (p : Int)) (hp : p < 3) : gOk (mX7_entryOf a1 a2 a3 μ) (sqP e p) := mX7_entryOf_r (R.2.1 n hn) L hB hn h1 hj hb h2 h3 hp
theorem mX7_termAt_ok (R : RA (μ 1 0) S) (L : LI B S) (hB : B < 1000000000) (hn : n < 5) (h1 : a1.toInt = (n : Int)) {ix : Nat} (h2 : a2.toInt = (ix : Int)) (hb : nbs (zno S n) ≤ ix) (hl : ix ≤ (nlg (zno S n)).length) : gOk (mX7_termAt a1 a2 μ) (fun r => r.toInt = sqTT (nlg (zno S n)) ix) := mX7_termAt_r (R.2.1 n hn) L hB hn h1 h2 hb hl
theorem mX7_countBits_ok (μ : gM) {x : Int32} {a : Nat} (hx : x.toInt = (a : Int)) (ha : a < 32) : gOk (mX7_countBits x μ) (fun r => r.toInt = (sqPc a : Int)) := by
  unfold mX7_countBits
  rw [ti_of hx]
  refine gOk_jon (gOk_fx2 (fun m x3 x4 => ∃ b : Fin 32, m = b.val ∧ x4 = Int32.ofNat b.val ∧ x3.toInt = (sqPc a : Int) - (sqPc b.val : Int) ∧ 0 ≤ x3.toInt) ?_ 1000000 a 0 _ (by omega) ⟨⟨a, ha⟩, rfl, rfl, by show (0 : Int) = (sqPc a : Int) - (sqPc a : Int); omega, by show (0 : Int) ≤ 0; omega⟩)
  rintro rec m x3 x4 ⟨b, rfl, rfl, h3, h4⟩ ih
  have hpa : sqPc a ≤ 5 := sqPc_le ⟨a, ha⟩
  refine gOk_eq (ti_nat (by have := b.isLt; omega)) (y := 0) (b := 0) rfl (fun q => ?_) (fun q => ?_)
  · refine gOk_some ?_
    have : b.val = 0 := by omega
    rw [this] at h3
    have e : sqPc 0 = 0 := rfl
    omega
  · obtain ⟨l1, l2, l3⟩ := i32_low b (by omega)
    refine gOk_let ?_
    rw [l1]
    have hb := b.isLt
    have e := ti_add h3 (y := 1) (b := 1) rfl (by omega) (by omega)
    exact ih _ _ (b.val &&& (b.val - 1)) l2 ⟨⟨b.val &&& (b.val - 1), by omega⟩, rfl, rfl, by show (x3 + 1).toInt = (sqPc a : Int) - (sqPc (b.val &&& (b.val - 1)) : Int); omega, by omega⟩
end SqRef
