/-! The reference: what is written, and messages that are sent. -/
/-- only the reference's row of numbers differs -/
def gF1 (μ μ' : gM) : Prop := ∀ f i, ¬ (f = 1 ∧ i = 0) → μ' f i = μ f i
theorem gF1.rf {μ : gM} : gF1 μ μ := fun _ _ _ => rfl
theorem gF1.tr {μ μ1 μ2 : gM} (h : gF1 μ μ1) (k : gF1 μ1 μ2) : gF1 μ μ2 := fun f i q => (k f i q).trans (h f i q)
theorem gF1.w {μ : gM} {k : Nat} {v : Int32} : gF1 μ (w3 μ 1 0 k v) := fun _ _ q => w3_ne q
/-- the row where a message is being written behind those of S -/
def RPp (A : Nat → Int32) (S : sqSt) : Prop := ((A 0).toInt = zti S ∧ (A 1).toInt = zde S ∧ A 2 = zse S ∧ (A 3).toInt = ((zms S).length : Int) + 1 ∧ (∀ i, i < 5 → (A (4 + i)).toInt = sqMk (zcu S i)) ∧ (∀ k, 1 ≤ k → k ≤ 6 → A (9 + k) = zst S k) ∧ (∀ t, t < 100 → A (16 + t) = zwi S t)) ∧ (∀ n, n < 5 → RN (rN A n) (zg S) (zno S n)) ∧ ∀ (i : Nat) (m : sqMs), (zms S)[i]? = some m → RM (rM A i) (zg S) m
section SqRef3
variable {μ : gM} {S : sqSt} {B n k i : Nat} {a1 a2 a3 a4 a5 : Int32} {N : sqN} {A A' : Nat → Int32}
theorem RN.cg {r r' : Nat → Int32} {g : Nat} (h : RN r g N) (e : ∀ k, k < 100 → r' k = r k) : RN r' g N := ⟨h.1.cg (fun k a _ => e k a), h.2.cg (fun k a _ => e k a)⟩
theorem LI.ml (L : LI B S) (hZ : zIL B S) {m : sqMs} (hm : m ∈ zms S) : mki m = 2 → (mes m).length ≤ 4 := by
  intro q
  obtain ⟨h, I⟩ := hZ.1
  exact ((I.2.2.2 m hm).2.2.2.1 q).2.2.2.2.1
theorem RA.mv (R : RA A S) (hZ : zIL B S) (e1 : ∀ k, 116 ≤ k → k < 616 → A' k = A k) (e2 : ∀ k, 616 ≤ k → k < 616 + 25 * (zms S).length → A' k = A k) : (∀ n, n < 5 → RN (rN A' n) (zg S) (zno S n)) ∧ ∀ (i : Nat) (m : sqMs), (zms S)[i]? = some m → RM (rM A' i) (zg S) m := by
  refine ⟨fun n hn => (R.2.1 n hn).cg (fun k hk => e1 _ (by omega) (by omega)), fun i m hm => ?_⟩
  have := (List.getElem?_eq_some_iff.mp hm).1
  exact (R.2.2 i m hm).cg (hZ.2.ml hZ (List.mem_of_getElem? hm)) (fun k hk => e2 _ (by omega) (by omega))
end SqRef3
section SqRef4
variable {μ : gM} {S : sqSt} {B n k i : Nat} {a1 a2 a3 a4 a5 : Int32} {N : sqN} {A A' : Nat → Int32}
theorem w3_10 (μ : gM) (k : Nat) (v : Int32) : w3 μ 1 0 k v 1 0 = upd (μ 1 0) k v := w3_row μ 1 0 k v
theorem mX7_tally_ok (μ : gM) {s : Nat} (h1 : a1.toInt = (s : Int)) (hs : s < 7) : mX7_tally a1 a2 μ = some (w3 μ 1 0 (9 + s) (μ 1 0 (9 + s) + a2)) := by
  have e := ti_add (x := 9) (a := 9) rfl h1 (by omega) (by omega)
  have e' : (9 + a1).toInt = ((9 + s : Nat) : Int) := by rw [e]; omega
  unfold mX7_tally gChk
  rw [if_pos (ti_inb e' (by omega)), if_pos (ti_inb e' (by omega)), ti_cl e']
  rfl
theorem RA.stat (R : RA A S) (hZ : zIL B S) {s : Nat} (h1 : 1 ≤ s) (h2 : s ≤ 6) {v : Int32} : RA (upd A (9 + s) (A (9 + s) + v)) (zS S s v) := by
  obtain ⟨m1, m2⟩ := R.mv hZ (A' := upd A (9 + s) (A (9 + s) + v)) (fun k a b => upd_ne _ _ (by omega)) (fun k a b => upd_ne _ _ (by omega))
  obtain ⟨g1, g2, g3, g4, g5, g6, g7⟩ := R.1
  refine ⟨⟨?_, ?_, ?_, ?_, fun i hi => ?_, fun k k1 k2 => ?_, fun t ht => ?_⟩, m1, m2⟩
  · rw [upd_ne _ _ (by omega)]; exact g1
  · rw [upd_ne _ _ (by omega)]; exact g2
  · rw [upd_ne _ _ (by omega)]; exact g3
  · rw [upd_ne _ _ (by omega)]; exact g4
  · rw [upd_ne _ _ (by omega)]; exact g5 i hi
  · show _ = sqU1 (zst S) s (zst S s + v) k
    by_cases q : k = s
    · rw [q, upd_at, sqU1_at, g6 s h1 h2]
    · rw [upd_ne _ _ (by omega), sqU1_ne q]; exact g6 k k1 k2
  · rw [upd_ne _ _ (by omega)]; exact g7 t ht
theorem mX7_put_ok (μ : gM) {i k : Nat} (h1 : a1.toInt = (i : Int)) (h2 : a2.toInt = (k : Int)) (hi : i < 40) (hk : k < 25) : mX7_put a1 a2 a3 μ = some (w3 μ 1 0 (616 + 25 * i + k) a3) := by
  have e := ti_add (ti_add (a := 616) (x := 616) rfl (ti_mul (b := 25) (y := 25) h1 rfl (by omega) (by omega)) (by omega) (by omega)) h2 (by omega) (by omega)
  have e' : ((616 + (a1 * 25)) + a2).toInt = ((616 + 25 * i + k : Nat) : Int) := by rw [e]; omega
  unfold mX7_put gChk
  rw [if_pos (ti_inb e' (by omega)), ti_cl e']
  rfl
theorem mX7_part_ok (μ : gM) {i k : Nat} (h1 : a1.toInt = (i : Int)) (h2 : a2.toInt = (k : Int)) (hi : i < 40) (hk : k < 25) : mX7_part a1 a2 μ = some (rM (μ 1 0) i k) := by
  have e := ti_add (ti_add (a := 616) (x := 616) rfl (ti_mul (b := 25) (y := 25) h1 rfl (by omega) (by omega)) (by omega) (by omega)) h2 (by omega) (by omega)
  have e' : ((616 + (a1 * 25)) + a2).toInt = ((616 + 25 * i + k : Nat) : Int) := by rw [e]; omega
  unfold mX7_part gChk
  rw [if_pos (ti_inb e' (by omega)), ti_cl e']
  rfl
theorem rM_upd (A : Nat → Int32) (i k : Nat) (v : Int32) : rM (upd A (616 + 25 * i + k) v) i = upd (rM A i) k v := by
  funext j
  unfold rM upd
  by_cases h : j = k
  · rw [if_pos h, if_pos (by omega)]
  · rw [if_neg h, if_neg (by omega)]
theorem RPp.put (R : RPp A S) (hZ : zIL B S) (hl : (zms S).length < 40) {k : Nat} (hk : k < 25) {v : Int32} : RPp (upd A (616 + 25 * (zms S).length + k) v) S := by
  obtain ⟨⟨g1, g2, g3, g4, g5, g6, g7⟩, p1, p2⟩ := R
  refine ⟨⟨?_, ?_, ?_, ?_, fun i hi => ?_, fun k k1 k2 => ?_, fun t ht => ?_⟩, fun n hn => (p1 n hn).cg (fun j hj => upd_ne _ _ (by omega)), fun i m hm => ?_⟩
  · rw [upd_ne _ _ (by omega)]; exact g1
  · rw [upd_ne _ _ (by omega)]; exact g2
  · rw [upd_ne _ _ (by omega)]; exact g3
  · rw [upd_ne _ _ (by omega)]; exact g4
  · rw [upd_ne _ _ (by omega)]; exact g5 i hi
  · rw [upd_ne _ _ (by omega)]; exact g6 k k1 k2
  · rw [upd_ne _ _ (by omega)]; exact g7 t ht
  · have := (List.getElem?_eq_some_iff.mp hm).1
    exact (p2 i m hm).cg (hZ.2.ml hZ (List.mem_of_getElem? hm)) (fun j hj => upd_ne _ _ (by omega))
/-- the message is written: it counts -/
theorem RPp.fin (R : RPp A S) {m : sqMs} (hM : RM (rM A (zms S).length) (zg S) m) : RA A (zM S (zms S ++ [m])) := by
  obtain ⟨⟨g1, g2, g3, g4, g5, g6, g7⟩, p1, p2⟩ := R
  refine ⟨⟨g1, g2, g3, ?_, g5, g6, g7⟩, p1, fun i m' hm => ?_⟩
  · show (A 3).toInt = ((zms S ++ [m]).length : Nat)
    rw [List.length_append, g4]
    rfl
  · have hm' : (zms S ++ [m])[i]? = some m' := hm
    rcases Nat.lt_or_ge i (zms S).length with q | q
    · rw [List.getElem?_append_left q] at hm'
      exact p2 i m' hm'
    · have hl := (List.getElem?_eq_some_iff.mp hm').1
      rw [List.length_append] at hl
      have e1 : [m].length = 1 := rfl
      have : i = (zms S).length := by omega
      rw [this, List.getElem?_concat_length] at hm'
      rw [this, ← Option.some.inj hm']
      exact hM
theorem RA.begun (R : RA A S) (hZ : zIL B S) (e : ∀ k, k < 616 + 25 * (zms S).length → k ≠ 3 → A' k = A k) (e3 : (A' 3).toInt = ((zms S).length : Int) + 1) : RPp A' S := by
  obtain ⟨m1, m2⟩ := R.mv hZ (A' := A') (fun k a b => e k (by omega) (by omega)) (fun k a b => e k (by omega) (by omega))
  obtain ⟨g1, g2, g3, g4, g5, g6, g7⟩ := R.1
  refine ⟨⟨?_, ?_, ?_, e3, fun i hi => ?_, fun k k1 k2 => ?_, fun t ht => ?_⟩, m1, m2⟩
  · rw [e 0 (by omega) (by omega)]; exact g1
  · rw [e 1 (by omega) (by omega)]; exact g2
  · rw [e 2 (by omega) (by omega)]; exact g3
  · rw [e (4 + i) (by omega) (by omega)]; exact g5 i hi
  · rw [e (9 + k) (by omega) (by omega)]; exact g6 k k1 k2
  · rw [e (16 + t) (by omega) (by omega)]; exact g7 t ht
/-- the row of a message that is made -/
def RMk (r : Nat → Int32) (S : sqSt) (n : Nat) (a1 a2 a3 a4 a5 : Int32) : Prop := r 0 = a1 ∧ r 1 = a2 ∧ r 2 = a3 ∧ (r 3).toInt = ntm (zno S n) ∧ (r 4).toInt = (zti S : Int) + zde S ∧ r 5 = a4 ∧ r 6 = a5 ∧ (r 7).toInt = zti S ∧ ∀ k, 8 ≤ k → k < 25 → r k = 0
theorem mX7_send_ok (R : RZ B (μ 1 0) S) (hn : n < 5) (hi : i < 5) (h2 : a2.toInt = (n : Int)) (h3 : a3.toInt = (i : Int)) : gOk (mX7_send a1 a2 a3 a4 a5 μ) (fun q => gF1 μ q.2 ∧ (((zcu S n i = true ∨ 40 ≤ (zms S).length) ∧ q.1 = -1 ∧ RA (q.2 1 0) (zS (zS S 1 1) 2 1)) ∨ (¬ (zcu S n i = true ∨ 40 ≤ (zms S).length) ∧ q.1.toInt = (zms S).length ∧ RPp (q.2 1 0) (zS S 1 1) ∧ RMk (rM (q.2 1 0) (zms S).length) S n a1 a2 a3 a4 a5))) := by
  obtain ⟨R0, hZ, hB⟩ := R
  have hcnt : (zms S).length ≤ 40 := hZ.2.2.2.2.2.2
  have htB : zti S ≤ B := hZ.2.1
  have hdB := hZ.2.2.1
  unfold mX7_send
  refine gOk_be (mX7_tally_ok μ (s := 1) rfl (by omega)) ?_
  generalize hμ2 : w3 μ 1 0 (9 + 1) (μ 1 0 (9 + 1) + 1) = μ2
  have hA2 : μ2 1 0 = upd (μ 1 0) (9 + 1) (μ 1 0 (9 + 1) + 1) := by rw [← hμ2]; exact w3_10 _ _ _
  have F2 : gF1 μ μ2 := by rw [← hμ2]; exact gF1.w
  have R2 : RA (μ2 1 0) (zS S 1 1) := by rw [hA2]; exact R0.stat hZ (Nat.le_refl 1) (by omega)
  have hZ2 : zIL B (zS S 1 1) := hZ
  have e4 : (4 + a2).toInt = ((4 + n : Nat) : Int) := by rw [ti_add (x := 4) (a := 4) rfl h2 (by omega) (by omega)]; omega
  obtain ⟨g1, g2, g3, g4, g5, g6, g7⟩ := R2.1
  refine gOk_chk (ti_inb e4 (by omega)) ?_
  rw [ti_cl e4]
  have hbit := sqMk_bit (zcu S n) i hi
  have g4' : (μ2 1 0 3).toInt = ((zms S).length : Int) := g4
  have lost : (zcu S n i = true ∨ 40 ≤ (zms S).length) → gOk (gBp (mX7_tally 2 1 μ2) fun μ8 => some ((-1 : Int32), μ8)) (fun q => gF1 μ q.2 ∧ (((zcu S n i = true ∨ 40 ≤ (zms S).length) ∧ q.1 = -1 ∧ RA (q.2 1 0) (zS (zS S 1 1) 2 1)) ∨ (¬ (zcu S n i = true ∨ 40 ≤ (zms S).length) ∧ q.1.toInt = (zms S).length ∧ RPp (q.2 1 0) (zS S 1 1) ∧ RMk (rM (q.2 1 0) (zms S).length) S n a1 a2 a3 a4 a5))) := by
    intro hc
    refine gOk_be (mX7_tally_ok μ2 (s := 2) rfl (by omega)) (gOk_some ⟨F2.tr gF1.w, Or.inl ⟨hc, rfl, ?_⟩⟩)
    show RA (w3 μ2 1 0 (9 + 2) (μ2 1 0 (9 + 2) + 1) 1 0) _
    rw [w3_10]
    exact R2.stat hZ2 (by omega) (by omega)
  refine gOk_bp (mX7_has_ok μ2 (c := sqMk (zcu S n)) (v := i) (sqMk_lt _) hi (g5 n hn) h3) (fun r5 h5 => ?_)
  rw [hbit] at h5
  refine gOk_jon (gOk_if (fun q => ?_) (fun q => ?_))
  · have hc : zcu S n i = false := by
      cases z : zcu S n i with
      | false => rfl
      | true => rw [z] at h5; rw [h5] at q; exact absurd q (by decide)
    refine gOk_eq g4' (y := 40) (b := 40) rfl (fun q2 => lost (Or.inr (by omega))) (fun q2 => ?_)
    have hlt : (zms S).length < 40 := by omega
    have hnl : ¬ (zcu S n i = true ∨ 40 ≤ (zms S).length) := by
      rintro (z | z)
      · rw [hc] at z; cases z
      · omega
    generalize hL : (zms S).length = c at *
    have hms : (zms (zS S 1 1)).length = c := hL
    -- the row is cleared, then written
    refine gOk_let (gOk_jon (gOk_fx2 (fun m x38 μ39 => ∃ j : Nat, m = 25 - j ∧ j ≤ 25 ∧ x38.toInt = (j : Int) ∧ gF1 μ μ39 ∧ RA (μ39 1 0) (zS S 1 1) ∧ ∀ k, k < j → rM (μ39 1 0) c k = 0) ?_ 1000000 25 _ _ (by omega) ⟨0, rfl, by omega, rfl, F2, R2, fun k hk => absurd hk (Nat.not_lt_zero k)⟩))
    rintro rec m x38 μ39 ⟨j, rfl, j1, j2, j3, j4, j5⟩ ih
    refine gOk_le (x := 25) (a := 25) rfl j2 (fun q3 => ?_) (fun q3 => ?_)
    · have hj : j = 25 := by omega
      subst hj
      obtain ⟨s1, s2, s3, s4, s5, s6, s7⟩ := j4.1
      obtain ⟨⟨n1, n2, -⟩, -⟩ := j4.2.1 n hn
      have n2' : (rN (μ39 1 0) n 2).toInt = ntm (zno S n) := n2
      have s1' : (μ39 1 0 0).toInt = zti S := s1
      have s2' : (μ39 1 0 1).toInt = zde S := s2
      have s4' : (μ39 1 0 3).toInt = (c : Int) := by rw [s4, hms]
      have b0 : rN (μ39 1 0) n 2 = μ39 1 0 (116 + 100 * n + 2) := rfl
      refine gOk_be (mX7_put_ok μ39 g4' (k := 0) rfl hlt (by omega)) (gOk_be (mX7_put_ok _ g4' (k := 1) rfl hlt (by omega)) (gOk_be (mX7_put_ok _ g4' (k := 2) rfl hlt (by omega)) ?_))
      refine gOk_be (mX7_of_ok _ h2 (k := 2) rfl hn (by omega)) ?_
      refine gOk_be (mX7_put_ok _ g4' (k := 3) rfl hlt (by omega)) (gOk_be (mX7_put_ok _ g4' (k := 4) rfl hlt (by omega)) (gOk_be (mX7_put_ok _ g4' (k := 5) rfl hlt (by omega)) (gOk_be (mX7_put_ok _ g4' (k := 6) rfl hlt (by omega)) (gOk_be (mX7_put_ok _ g4' (k := 7) rfl hlt (by omega)) (gOk_let (gOk_some ?_))))))
      refine ⟨?_, Or.inr ⟨hnl, ?_, ?_, ?_⟩⟩
      · exact j3.tr (gF1.w.tr (gF1.w.tr (gF1.w.tr (gF1.w.tr (gF1.w.tr (gF1.w.tr (gF1.w.tr (gF1.w.tr gF1.w))))))))
      · exact g4'
      · refine j4.begun hZ2 (fun k k1 k2 => ?_) ?_
        · simp only [w3_10]
          rw [upd_ne _ _ k2]
          iterate 8 rw [upd_ne _ _ (by omega)]
        · simp only [w3_10, upd_at]
          have e3 : ∀ (X : Nat → Int32) (j : Nat) (v : Int32), upd X (616 + 25 * c + j) v 3 = X 3 := fun X j v => upd_ne _ _ (by omega)
          simp only [e3]
          rw [ti_add s4' (y := 1) (b := 1) rfl (by omega) (by omega), hms]
      · simp only [w3_10]
        have e3 : ∀ (X : Nat → Int32) (v : Int32) (k : Nat), rM (upd X 3 v) c k = rM X c k := fun X v k => upd_ne _ _ (by omega)
        have eu : ∀ (X : Nat → Int32) (j : Nat) (v : Int32), rM (upd X (616 + 25 * c + j) v) c = upd (rM X c) j v := fun X j v => rM_upd X c j v
        refine ⟨?_, ?_, ?_, ?_, ?_, ?_, ?_, ?_, ?_⟩
        · rw [e3]; simp only [eu]; rfl
        · rw [e3]; simp only [eu]; rfl
        · rw [e3]; simp only [eu]; rfl
        · rw [e3]; simp only [eu]
          have en : ∀ (X : Nat → Int32) (j : Nat) (v : Int32), rN (upd X (616 + 25 * c + j) v) n 2 = rN X n 2 := fun X j v => upd_ne _ _ (by omega)
          simp only [en]
          exact n2'
        · rw [e3]; simp only [eu]
          have e0 : ∀ (X : Nat → Int32) (j : Nat) (v : Int32), upd X (616 + 25 * c + j) v 0 = X 0 := fun X j v => upd_ne _ _ (by omega)
          have e1 : ∀ (X : Nat → Int32) (j : Nat) (v : Int32), upd X (616 + 25 * c + j) v 1 = X 1 := fun X j v => upd_ne _ _ (by omega)
          simp only [e0, e1]
          exact ti_add s1' s2' (by omega) (by omega)
        · rw [e3]; simp only [eu]; rfl
        · rw [e3]; simp only [eu]; rfl
        · rw [e3]; simp only [eu]
          have e0 : ∀ (X : Nat → Int32) (j : Nat) (v : Int32), upd X (616 + 25 * c + j) v 0 = X 0 := fun X j v => upd_ne _ _ (by omega)
          simp only [e0]
          exact s1'
        · intro k k1 k2
          rw [e3]; simp only [eu]
          iterate 8 rw [upd_ne _ _ (by omega)]
          exact j5 k k2
    · refine gOk_be (mX7_put_ok μ39 g4' j2 hlt (by omega)) (ih _ _ (25 - (j + 1)) (by omega) ⟨j + 1, rfl, by omega, by rw [ti_add j2 (y := 1) (b := 1) rfl (by omega) (by omega)]; omega, j3.tr gF1.w, ?_, fun k hk => ?_⟩)
      · rw [w3_10]
        obtain ⟨m1, m2⟩ := j4.mv hZ2 (A' := upd (μ39 1 0) (616 + 25 * c + j) 0) (fun k a b => upd_ne _ _ (by omega)) (fun k a b => upd_ne _ _ (by omega))
        obtain ⟨g1, g2, g3, g4, g5, g6, g7⟩ := j4.1
        refine ⟨⟨?_, ?_, ?_, ?_, fun i hi => ?_, fun k k1 k2 => ?_, fun t ht => ?_⟩, m1, m2⟩
        · rw [upd_ne _ _ (by omega)]; exact g1
        · rw [upd_ne _ _ (by omega)]; exact g2
        · rw [upd_ne _ _ (by omega)]; exact g3
        · rw [upd_ne _ _ (by omega)]; exact g4
        · rw [upd_ne _ _ (by omega)]; exact g5 i hi
        · rw [upd_ne _ _ (by omega)]; exact g6 k k1 k2
        · rw [upd_ne _ _ (by omega)]; exact g7 t ht
      · rw [w3_10, rM_upd]
        by_cases z : k = j
        · rw [z, upd_at]
        · rw [upd_ne _ _ z]; exact j5 k (by omega)
  · have hc : zcu S n i = true := by
      cases z : zcu S n i with
      | true => rfl
      | false => rw [z] at h5; rw [h5] at q; exact absurd rfl q
    exact lost (Or.inl hc)
end SqRef4
