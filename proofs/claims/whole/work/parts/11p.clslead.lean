/-! The class: coming to lead. -/
section SqClL
variable {μ μ' μ1 : gM} {n g b k i nc B t t1 s q kk : Nat} {l : List sqE} {a1 a2 a3 a4 : Int32} {e : sqE} {m : sqMs} {S S' : sqSt} {N : sqN}
/-- the cells of the cluster itself and of its winners -/
def rcP (q : Nat) : Nat → Nat → Nat → Prop := fun f i _ => i = q ∧ (f = 6 ∨ f = 8)
theorem rcP_rb {q : Nat} : ∀ f i j, rcP q f i j → rbP q f i j := fun _ _ _ h => Or.inl ⟨h.1, by have := h.2; omega⟩
theorem RB.st (h : RB μ q S) {c : Nat} (h3 : 3 ≤ c) (h6 : c ≤ 6) (x : Int32) : RB (w3 μ 6 q (2 + c) (μ 6 q (2 + c) + x)) q (zS S c x) := by
  obtain ⟨w, bn, c3, c4, c5, c8⟩ := h
  refine ⟨w.cg (fun j => w3_o _ _ (by omega)) (fun j => w3_o _ _ (by omega)) (fun f i j _ _ => w3_o _ _ (by omega)) rfl rfl rfl (sqU1_ne (by omega)) (sqU1_ne (by omega)) rfl, fun n hn => (bn n hn).same (fun f j _ _ => w3_o _ _ (by omega)), by rw [w3_o _ _ (by omega)]; exact c3, by rw [w3_o _ _ (by omega)]; exact c4, fun d d1 d2 => ?_, fun t ht => by rw [w3_o _ _ (by omega)]; exact c8 t ht⟩
  show _ = sqU1 (zst S) c (zst S c + x) d
  by_cases z : d = c
  · subst z; rw [w3_at, sqU1_at, c5 d d1 d2]
  · rw [w3_o _ _ (by omega), sqU1_ne z]; exact c5 d d1 d2
theorem RB.win (h : RB μ q S) {T : Nat} (hT : T < 100) (x : Int32) : RB (w3 μ 8 q T x) q (zW S T x) := by
  obtain ⟨w, bn, c3, c4, c5, c8⟩ := h
  refine ⟨w.cg (fun j => w3_o _ _ (by omega)) (fun j => w3_o _ _ (by omega)) (fun f i j _ _ => w3_o _ _ (by omega)), fun n hn => (bn n hn).same (fun f j _ _ => w3_o _ _ (by omega)), by rw [w3_o _ _ (by omega)]; exact c3, by rw [w3_o _ _ (by omega)]; exact c4, fun d d1 d2 => by rw [w3_o _ _ (by omega)]; exact c5 d d1 d2, fun t ht => ?_⟩
  show _ = (if T < 100 then sqU1 (zwi S) T x else zwi S) t
  rw [if_pos hT]
  by_cases z : t = T
  · subst z; rw [w3_at, sqU1_at]
  · rw [w3_o _ _ (by omega), sqU1_ne z]; exact c8 t ht
theorem zW_hi {T : Nat} (hT : 100 ≤ T) (x : Int32) : zW S T x = S := by
  unfold zW
  rw [if_neg (by omega)]
theorem mX0_becomeLeader_ok (h : RY B μ q S) (hn : n < 5) : gOk (mX0_becomeLeader nc q (5 * q + n) μ) (fun μ' => gFr (rbP q) μ μ' ∧ RB μ' q (if (nlg (zno S n)).length < nbs (zno S n) + 24 then zAdd (zLead S n) n 3 0 else zLead S n)) := by
  have hb := h.1.2.1 n hn
  have hlen := h.len hn
  have hLL := (h.2.1.2.2.2.2.1 n hn).2.2.1
  have hTB := (h.2.1.2.2.2.2.1 n hn).1
  unfold mX0_becomeLeader
  refine gOk_lee (fun μ1 h1 => ?_)
  have F1 : gFr (rcP q) μ μ1 := by rw [h1]; exact gFr.w ⟨rfl, Or.inl rfl⟩
  have R1 : RB μ1 q (zS S 4 1) := by rw [h1]; exact h.1.st (c := 4) (by omega) (by omega) 1
  have t1 : (μ1 11 (5 * q + n) 7).toInt = (ntm (zno S n) : Int) := (R1.2.1 n hn).1.2.2.1
  have i1 : μ1 11 (5 * q + n) 0 = Int32.ofNat n := ti_of (R1.2.1 n hn).1.1
  refine gOk_jq (P := fun μ3 => gFr (rcP q) μ μ3 ∧ RB μ3 q (zW (zS S 4 1) (ntm (zno S n)) (Int32.ofNat n))) (fun μ3 h3 => ?_) (fun j4 hj4 => ?_)
  · obtain ⟨F3, R3⟩ := h3
    have b3 : BN μ3 (5 * q + n) n (zg S) (zno S n) := R3.2.1 n hn
    refine gOk_bp (mX4_lead_ok b3.1 hlen) (fun μ6 h6 => ?_)
    obtain ⟨F6, b6⟩ := h6
    have R6 : RB μ6 q (zLead S n) := R3.node hn (F6.up ldP_bn) b6
    have hLL2 : LL B (nlg (zno S n) ++ [(ntm (zno S n), 3, (0 : Int32))]) := hLL.app (fun e he => by
      cases List.mem_singleton.mp he
      exact ⟨hTB, Nat.le_refl 3, fun z => (by cases z), fun z => (by cases z)⟩)
    have FF : gFr (rbP q) μ μ6 := (F3.up rcP_rb).tr ((F6.up ldP_bn).up (bnP_rb hn))
    refine gOk_bd (mX1_append_ok (e := (ntm (zno S n), 3, (0 : Int32))) b6.1.2.2.2.2.2.1 hLL2 hlen b6.1.2.2.1 rfl rfl) (fun r8 μ9 hp => gOk_some ?_)
    by_cases q4 : (nlg (zno S n)).length < nbs (zno S n) + 24
    · obtain ⟨-, f9, c9, g9⟩ := hp.1 q4
      have f9 : gFr (clP (5 * q + n)) μ6 μ9 := f9
      rw [if_pos q4]
      refine ⟨FF.tr ((f9.up clP_bn).up (bnP_rb hn)), ?_⟩
      have h5 := R6.node hn (f9.up clP_bn) (b6.lg f9 c9 g9)
      have ez : zno (zLead S n) n = nLead (zno S n) := zN_at _ _ _
      unfold zAdd
      rw [ez]
      exact h5
    · have he := hp.2 (Nat.le_of_not_lt q4)
      have he2 : μ9 = μ6 := congrArg Prod.snd he
      rw [he2, if_neg q4]
      exact ⟨FF, R6⟩
  · refine gOk_lt t1 (y := 0) (b := 0) rfl (fun z => absurd z (by omega)) (fun _ => gOk_le (x := 100) (a := 100) rfl t1 (fun z => hj4 _ ⟨F1, ?_⟩) (fun z => ?_))
    · rw [zW_hi (by omega)]; exact R1
    · have p1 := ti_inb (n := 100) t1 (by omega)
      simp only [ti_cl t1]
      refine gOk_chk p1 (gOk_let (hj4 _ ⟨F1.tr (gFr.w ⟨rfl, Or.inr rfl⟩), ?_⟩))
      rw [i1]
      exact R1.win (by omega) _
end SqClL
