/-! The calls: what each answers and does to the state (code of the exception, 0 for none; the number; the state); the reference does so. -/
abbrev sqRs : Type := Nat × Int × sqSt
def isNd (a : Int) : Prop := 0 ≤ a ∧ a < 5
def zaDelay (S : sqSt) (d : Int) : sqRs := if 1 ≤ d ∧ d ≤ 5 then (0, zde S, zDe S d.toNat) else (1, 0, S)
def zaTick (S : sqSt) (t : Int) : sqRs := if 1 ≤ t ∧ t ≤ 60 then (0, (zti S + t.toNat : Nat), zTick t.toNat S) else (1, 0, S)
def zaCrash (S : sqSt) (a : Int) : sqRs := if ¬ (0 ≤ a ∧ a < 5) then (1, 0, S) else if nup (zno S a.toNat) = false then (2, 0, S) else (0, ntm (zno S a.toNat), zCrash S a.toNat)
def zaBack (S : sqSt) (a : Int) : sqRs := if ¬ (0 ≤ a ∧ a < 5) then (1, 0, S) else if nup (zno S a.toNat) = true then (2, 0, S) else (0, (nlg (zno S a.toNat)).length, zBack S a.toNat)
def zaSub (S : sqSt) (a : Int) (v : Int32) : sqRs := if ¬ (0 ≤ a ∧ a < 5) then (1, 0, S) else if nro (zno S a.toNat) ≠ 2 then (2, 0, S) else if nbs (zno S a.toNat) + 24 ≤ (nlg (zno S a.toNat)).length then (3, 0, S) else (0, (nlg (zno S a.toNat)).length + 1, zSub S a.toNat 0 v)
def zaMsgs (S : sqSt) : sqRs := (0, (zms S).length, S)
def zaLose (S : sqSt) (i : Int) : sqRs := if 0 ≤ i ∧ i < (zms S).length then (0, ((zms S).length - 1 : Nat), zS (zDel S i.toNat) 2 1) else (1, 0, S)
def zaStat (S : sqSt) (w : Int) : sqRs := if 0 ≤ w ∧ w ≤ 6 then (0, if w = 0 then (zti S : Int) else (zst S w.toNat).toInt, S) else (1, 0, S)
def zaWin (S : sqSt) (t : Int) : sqRs := if 0 ≤ t ∧ t ≤ 99 ∧ 0 ≤ (zwi S t.toNat).toInt then (0, (zwi S t.toNat).toInt, S) else (1, 0, S)
def gF3 (μ μ' : gM) : Prop := ∀ f i j, ¬ (f = 0 ∧ i = 0 ∧ j = 0) → ¬ ((f = 1 ∨ f = 4) ∧ i = 0) → μ' f i j = μ f i j
theorem gF3.tr {μ μ1 μ2 : gM} (h : gF3 μ μ1) (k : gF3 μ1 μ2) : gF3 μ μ2 := fun f i j q r => (k f i j q r).trans (h f i j q r)
theorem gF2.three {μ μ' : gM} (h : gF2 μ μ') : gF3 μ μ' := fun f i j _ r => by rw [h f i r]
theorem gF1.three {μ μ' : gM} (h : gF1 μ μ') : gF3 μ μ' := h.two.three
theorem gF3.th {μ : gM} {k : Int32} : gF3 μ (w3 μ 0 0 0 k) := fun f i j q _ => by
  unfold w3
  rw [if_neg (fun z => q z)]
def rPost (μ : gM) (B : Nat) (res : sqRs) (q : Int32 × gM) : Prop := gF3 μ q.2 ∧ (q.2 0 0 0).toInt = res.1 ∧ (res.1 = 0 → q.1.toInt = res.2.1) ∧ RZ B (q.2 1 0) res.2.2
section SqApi
variable {μ : gM} {S : sqSt} {B n k i : Nat} {a1 a2 a3 a4 a5 : Int32} {N : sqN} {A A' : Nat → Int32} {m : sqMs} {h : sqH}
theorem w3_000 (μ : gM) (k : Int32) : w3 μ 0 0 0 k 0 0 0 = k := by unfold w3; rw [if_pos ⟨rfl, rfl, rfl⟩]
theorem w3_0 (μ : gM) (k : Int32) {f i : Nat} (hf : f ≠ 0) : w3 μ 0 0 0 k f i = μ f i := w3_ne (fun z => hf z.1)
theorem gOk_fails {β : Type} {x k : Int32} {K : Int32 → gM → Option β} {Q : β → Prop} (hx : x = 0 ∨ x = 1) (h0 : x = 0 → gOk (K 0 (w3 μ 0 0 0 0)) Q) (h1 : x = 1 → gOk (K 1 (w3 μ 0 0 0 k)) Q) : gOk (gBd (mX7_fails k x μ) K) Q := by
  rcases hx with z | z
  · have := h0 z
    subst z
    exact this
  · have := h1 z
    subst z
    exact this
theorem gOk_guard {β : Type} {c : Prop} [Decidable c] {k : Int32} {A C : gM → Option β} {Q : β → Prop} (h0 : ¬ c → gOk (A (w3 μ 0 0 0 0)) Q) (h1 : c → gOk (C (w3 μ 0 0 0 k)) Q) : gOk (gLet (α := Int32) (if c then 1 else 0) fun x3 => gBd (mX7_fails k x3 μ) fun r8 μ9 => if r8 = 0 then A μ9 else C μ9) Q := by
  refine gOk_let ?_
  by_cases h : c
  · rw [if_pos h]
    exact gOk_fails (Or.inr rfl) (fun z => absurd z (by decide)) (fun _ => gOk_if (fun z => absurd z (by decide)) (fun _ => h1 h))
  · rw [if_neg h]
    exact gOk_fails (Or.inl rfl) (fun _ => gOk_if (fun _ => h0 h) (fun z => absurd rfl z)) (fun z => absurd z (by decide))
theorem gOk_guarn {β : Type} {c : Prop} [Decidable c] {k : Int32} {A C : gM → Option β} {Q : β → Prop} (h0 : c → gOk (A (w3 μ 0 0 0 0)) Q) (h1 : ¬ c → gOk (C (w3 μ 0 0 0 k)) Q) : gOk (gLet (α := Int32) (if c then 0 else 1) fun x3 => gBd (mX7_fails k x3 μ) fun r8 μ9 => if r8 = 0 then A μ9 else C μ9) Q := by
  refine gOk_let ?_
  by_cases h : c
  · rw [if_pos h]
    exact gOk_fails (Or.inl rfl) (fun _ => gOk_if (fun _ => h0 h) (fun z => absurd rfl z)) (fun z => absurd z (by decide))
  · rw [if_neg h]
    exact gOk_fails (Or.inr rfl) (fun z => absurd z (by decide)) (fun _ => gOk_if (fun z => absurd z (by decide)) (fun _ => h1 h))
theorem mX7_isBetween_ok (μ : gM) {a b c : Int} (h1 : a1.toInt = a) (h2 : a2.toInt = b) (h3 : a3.toInt = c) : gOk (mX7_isBetween a1 a2 a3 μ) (fun r => (r = 0 ∨ r = 1) ∧ (r = 0 ↔ ¬ (b ≤ a ∧ a ≤ c))) := by
  unfold mX7_isBetween
  refine gOk_lt h1 h2 (fun q => gOk_some ⟨Or.inl rfl, fun _ => by omega, fun _ => rfl⟩) (fun q => gOk_lt h3 h1 (fun w => gOk_some ⟨Or.inl rfl, fun _ => by omega, fun _ => rfl⟩) (fun w => gOk_some ⟨Or.inr rfl, fun z => absurd z (by decide), fun z => absurd ⟨q, w⟩ z⟩))
theorem mX7_isNode_ok (μ : gM) (a1 : Int32) : gOk (mX7_isNode a1 μ) (fun r => (r = 0 ∨ r = 1) ∧ (r = 0 ↔ ¬ (0 ≤ a1.toInt ∧ a1.toInt < 5))) := by
  unfold mX7_isNode
  refine gOk_bp (mX7_isBetween_ok μ (a := a1.toInt) rfl (b := 0) rfl (c := 4) rfl) (fun r hr => gOk_chk hr.1 (gOk_some ⟨hr.1, hr.2.trans ⟨fun z w => z (by omega), fun z w => z (by omega)⟩⟩))
theorem RZ.th (R : RZ B (μ 1 0) S) {k : Int32} : RZ B (w3 μ 0 0 0 k 1 0) S := by rw [w3_0 μ k (by omega)]; exact R
/-- a call that throws: only the note of it is written -/
theorem rPost_no (R : RZ B (μ 1 0) S) {k : Int32} {c : Nat} {v : Int} (hk : k.toInt = (c : Int)) (hc : c ≠ 0) (x : Int32) : rPost μ B (c, v, S) (x, w3 μ 0 0 0 k) := ⟨gF3.th, (congrArg Int32.toInt (w3_000 μ k)).trans hk, fun z => absurd z hc, R.th (k := k)⟩
theorem rPost.th {μ : gM} {k : Int32} {B : Nat} {res : sqRs} {q : Int32 × gM} (h : rPost (w3 μ 0 0 0 k) B res q) : rPost μ B res q := ⟨gF3.th.tr h.1, h.2⟩

theorem rPost_yes {μ' : gM} {x : Int32} {v : Int} {S' : sqSt} (F : gF2 (w3 μ 0 0 0 0) μ') (hx : x.toInt = v) (R : RZ B (μ' 1 0) S') : rPost μ B (0, v, S') (x, μ') :=
  ⟨gF3.th.tr F.three, by show (μ' 0 0 0).toInt = 0; rw [F 0 0 (by omega), w3_000]; rfl, fun _ => hx, R⟩
theorem mX7_setDelay_ok (R : RZ B (μ 1 0) S) : gOk (mX7_setDelay a1 μ) (rPost μ B (zaDelay S a1.toInt)) := by
  unfold mX7_setDelay zaDelay
  refine gOk_bp (mX7_isBetween_ok μ (a := a1.toInt) rfl (b := 1) rfl (c := 5) rfl) (fun r2 h2 => gOk_guard (fun q => ?_) (fun q => ?_))
  · have hc : 1 ≤ a1.toInt ∧ a1.toInt ≤ 5 := Classical.byContradiction fun z => q (h2.2.mpr z)
    rw [if_pos hc]
    have R1 := R.th (k := 0)
    obtain ⟨g1, g2, g3, g4, g5, g6, g7⟩ := R1.1.1
    refine gOk_let (gOk_let (gOk_some (rPost_yes gF1.w.two g2 ⟨?_, ?_, R.2.2⟩)))
    · rw [w3_10]
      obtain ⟨m1, m2⟩ := R1.1.mv R1.2.1 (A' := upd (w3 μ 0 0 0 0 1 0) 1 a1) (fun k a b => upd_ne _ _ (by omega)) (fun k a b => upd_ne _ _ (by omega))
      refine ⟨⟨?_, ?_, ?_, ?_, fun i hi => ?_, fun k k1 k2 => ?_, fun t ht => ?_⟩, m1, m2⟩
      · rw [upd_ne _ _ (by omega)]; exact g1
      · rw [upd_at]; show _ = ((a1.toInt.toNat : Nat) : Int); omega
      · rw [upd_ne _ _ (by omega)]; exact g3
      · rw [upd_ne _ _ (by omega)]; exact g4
      · rw [upd_ne _ _ (by omega)]; exact g5 i hi
      · rw [upd_ne _ _ (by omega)]; exact g6 k k1 k2
      · rw [upd_ne _ _ (by omega)]; exact g7 t ht
    · obtain ⟨⟨h, I⟩, L⟩ := R.2.1
      exact ⟨⟨h, I⟩, L.1, ⟨by show 1 ≤ a1.toInt.toNat; omega, by show a1.toInt.toNat ≤ 5; omega⟩, L.2.2⟩
  · rw [if_neg (h2.2.mp q)]
    exact gOk_some (rPost_no R rfl (by omega) 0)
theorem mX7_tick_ok (R : RZ B (μ 1 0) S) (hB : B + 96 * 61 + 200 < 800000000) : gOk (mX7_tick a1 μ) (rPost μ (B + 96 * 60) (zaTick S a1.toInt)) := by
  unfold mX7_tick zaTick
  refine gOk_bp (mX7_isBetween_ok μ (a := a1.toInt) rfl (b := 1) rfl (c := 60) rfl) (fun r2 h2 => gOk_guard (fun q => ?_) (fun q => ?_))
  · have hc : 1 ≤ a1.toInt ∧ a1.toInt ≤ 60 := Classical.byContradiction fun z => q (h2.2.mpr z)
    rw [if_pos hc]
    have R1 := R.th (k := 0)
    obtain ⟨t, ht⟩ : ∃ t : Nat, a1.toInt = (t : Int) := ⟨a1.toInt.toNat, by omega⟩
    have htt : a1.toInt.toNat = t := by omega
    rw [htt]
    refine gOk_jon (gOk_fx2 (fun v (x13 : Int32) (μ14 : gM) => ∃ k S', v = t - k ∧ k ≤ t ∧ x13.toInt = (k : Int) ∧ gF2 (w3 μ 0 0 0 0) μ14 ∧ RZ (B + 96 * k) (μ14 1 0) S' ∧ zTick (t - k) S' = zTick t S ∧ zti S' = zti S + k) ?_ 1000000 t _ _ (by omega) ⟨0, S, rfl, Nat.zero_le _, rfl, gF2.rf, R1, rfl, rfl⟩)
    intro rec v x13 μ14 hI ih
    obtain ⟨k, S', hv, k1, k2, k3, k4, k5, k6⟩ := hI
    subst hv
    refine gOk_le ht k2 (fun w => gOk_some ?_) (fun w => ?_)
    · have hk : k = t := by omega
      subst hk
      rw [Nat.sub_self] at k5
      have k5' : S' = zTick k S := k5
      refine rPost_yes k3 ?_ ?_
      · rw [k4.1.1.1, k6]
      · rw [← k5']; exact k4.up (by omega) (by omega)
    · refine gOk_bp (mX7_tickOnce_ok k4 (by omega)) (fun μ18 h18 => ih _ _ (t - (k + 1)) (by omega) ⟨k + 1, zTick1 S', rfl, by omega, by rw [ti_add k2 (y := 1) (b := 1) rfl (by omega) (by omega)]; omega, k3.tr h18.1, ?_, ?_, ?_⟩)
      · have := h18.2; rw [show B + 96 * (k + 1) = B + 96 * k + 96 by omega]; exact this
      · rw [← k5, show t - k = (t - (k + 1)) + 1 by omega]; rfl
      · rw [(k4.2.1.tick1).2, k6]; omega
  · rw [if_neg (h2.2.mp q)]
    exact gOk_some (rPost_no (R.up (by omega) (by omega)) rfl (by omega) 0)
/-- a node by its number -/
theorem nd_of (h : 0 ≤ a1.toInt ∧ a1.toInt < 5) : ∃ n : Nat, n < 5 ∧ a1.toInt = (n : Int) ∧ a1.toInt.toNat = n := ⟨a1.toInt.toNat, by omega, by omega, rfl⟩
theorem RN.up0 {r : Nat → Int32} {g : Nat} (h : RN r g N) {x : Int32} {b : Bool} (hx : x.toInt = if b then 1 else 0) : RN (upd r 0 x) g (nUp N b) := by
  obtain ⟨h1, h2, h3, h4, h5, h6, h7, h8, h9, h10, h11, h12⟩ := h.1
  refine ⟨⟨?_, ?_, ?_, ?_, ?_, ?_, ?_, ?_, ?_, ?_, h11, fun j e hj => ?_⟩, RN1.cg (N := N) h.2 (fun k a b => upd_ne _ _ (by omega))⟩
  · rw [upd_at]; exact hx
  · rw [upd_ne _ _ (by omega)]; exact h2
  · rw [upd_ne _ _ (by omega)]; exact h3
  · rw [upd_ne _ _ (by omega)]; exact h4
  · rw [upd_ne _ _ (by omega)]; exact h5
  · rw [upd_ne _ _ (by omega)]; exact h6
  · rw [upd_ne _ _ (by omega)]; exact h7
  · rw [upd_ne _ _ (by omega)]; exact h8
  · rw [upd_ne _ _ (by omega)]; exact h9
  · rw [upd_ne _ _ (by omega)]; exact h10
  · rw [upd_ne _ _ (by omega), upd_ne _ _ (by omega), upd_ne _ _ (by omega)]; exact h12 j e hj
theorem zIL.crash (I : zIL B S) (hn : n < 5) : zIL B (zCrash S n) := by
  obtain ⟨⟨h, I0⟩, L⟩ := I
  have b := L.2.2.2.1 n hn
  exact ⟨⟨h, I0.crash hn⟩, L.ndx hn rfl (N' := nRo (nUp (zno S n) false) 0) ⟨b.1, b.2.1, b.2.2.1, Nat.zero_le _, fun r => absurd rfl r, fun r => (by cases r), fun r => (by cases r)⟩ (Nat.le_refl _)⟩
theorem mX7_crash_ok (R : RZ B (μ 1 0) S) : gOk (mX7_crash a1 μ) (rPost μ B (zaCrash S a1.toInt)) := by
  unfold mX7_crash zaCrash
  refine gOk_bp (mX7_isNode_ok μ a1) (fun r2 h2 => gOk_guard (fun q => ?_) (fun q => ?_))
  · have hc : 0 ≤ a1.toInt ∧ a1.toInt < 5 := Classical.byContradiction fun z => q (h2.2.mpr z)
    rw [if_neg (show ¬ ¬ (0 ≤ a1.toInt ∧ a1.toInt < 5) from fun z => z hc)]
    obtain ⟨n, hn, h1, he⟩ := nd_of hc
    rw [he]
    have R1 := R.th (k := 0)
    have hR := R1.1.2.1 n hn
    have r0 := hR.1.1
    refine gOk_be (mX7_of_ok _ h1 (k := 0) rfl hn (by omega)) (gOk_guard (fun q2 => ?_) (fun q2 => ?_))
    · have hu : nup (zno S n) = true := by
        cases z : nup (zno S n) with
        | true => rfl
        | false => rw [z, if_neg (by decide)] at r0; exact absurd (ti_eq r0 (y := 0) rfl) q2
      rw [if_neg (by rw [hu]; decide)]
      have R2 := R1.th (k := 0)
      have hR2 := R2.1.2.1 n hn
      refine gOk_be (mX7_set_ok _ h1 (k := 0) rfl hn (by omega)) (gOk_be (mX7_set_ok _ h1 (k := 1) rfl hn (by omega)) (gOk_be (mX7_of_ok _ h1 (k := 2) rfl hn (by omega)) (gOk_some (rPost.th (rPost_yes (gF1.w.tr gF1.w).two ?_ ⟨?_, R.2.1.crash hn, R.2.2⟩)))))
      · simp only [w3_10]
        rw [rN_upd, rN_upd, upd_ne _ _ (by omega), upd_ne _ _ (by omega)]; exact hR2.1.2.1
      · simp only [w3_10]
        refine R2.1.nd R2.2.1 hn (fun k hk => by rw [upd_ne _ _ (by omega), upd_ne _ _ (by omega)]) ?_
        rw [rN_upd, rN_upd]
        exact (hR2.up0 (b := false) rfl).fo
    · have hu : nup (zno S n) = false := by
        cases z : nup (zno S n) with
        | false => rfl
        | true => rw [z, if_pos rfl, q2] at r0; exact absurd r0 (by decide)
      rw [if_pos hu]
      exact gOk_some (rPost.th (rPost_no R1 rfl (by omega) 0))
  · rw [if_pos (h2.2.mp q)]
    exact gOk_some (rPost_no R rfl (by omega) 0)
end SqApi
