/-! Scripts: the class reads commands. -/
section SqScr5
variable {μ μ' : gM} {β : Nat → Int32} {len p q k v w m n e B nc x : Nat} {a1 a2 a3 : Int32} {S : sqSt}
/-- what a command that was read leaves behind, at place x -/
def ccPost (β : Nat → Int32) (len p x : Nat) (μ : gM) (r : Int32 × gM) : Prop :=
  gFr (ccP x) μ r.2 ∧ (r.2 1 0 5).toInt = ((zCmd β len p).2.1 : Int) ∧ r.1 = (if (zCmd β len p).1 = true then 1 else 0) ∧ ((zCmd β len p).1 = true → (r.2 3 0 x).toInt = ((zCmd β len p).2.2.1 : Int) ∧ (r.2 4 0 x).toInt = ((zCmd β len p).2.2.2.1 : Int) ∧ (3 ≤ (zCmd β len p).2.2.1 ∧ (zCmd β len p).2.2.1 ≤ 5 → (r.2 5 0 x).toInt = ((zCmd β len p).2.2.2.2 : Int)))
theorem zNm_no {q : Nat} (h : ¬ zSee β len q 48 57 = true) (k v : Nat) : zNm β len k v q = (v, q) := by
  cases k with
  | zero => rfl
  | succ k => unfold zNm; rw [if_neg h]
theorem cn4_cc : ∀ f i j, (i = 0 ∧ (f = 1 ∧ j = 5 ∨ f = 4 ∧ j = x)) → ccP x f i j := fun f i j h => ⟨h.1, by omega⟩
theorem cn5_cc : ∀ f i j, (i = 0 ∧ (f = 1 ∧ j = 5 ∨ f = 5 ∧ j = x)) → ccP x f i j := fun f i j h => ⟨h.1, by omega⟩
/-- the end of a command -/
theorem mX5_last_ok {μ1 : gM} (h : BuC μ1 β len) (F : gFr (ccP x) μ μ1) {r s f : Nat} (hp : (μ1 1 0 5).toInt = (r : Int)) (h3 : (μ1 3 0 x).toInt = (w : Int)) (h4 : (μ1 4 0 x).toInt = (f : Int)) (h5 : 3 ≤ w ∧ w ≤ 5 → (μ1 5 0 x).toInt = (s : Int)) (hZ : zCmd β len p = zC3 β len w f s r) : gOk (gBd (mX5_skip nc 59 μ1) fun r26 μ27 => gChk (r26 = 0 ∨ r26 = 1) <| some (r26, μ27)) (ccPost β len p x μ) := by
  refine gOk_bd (mX5_skip_ok h hp (c := 59) rfl) (fun r26 μ27 hq => ?_)
  unfold ccPost
  rw [hZ]
  unfold zC3
  by_cases z : zSee β len r 59 59 = true
  · obtain ⟨q1, q2, q3⟩ := hq.1 z
    have q1 : r26 = 1 := q1
    have q2 : gFr cpP μ1 μ27 := q2
    have q3 : (μ27 1 0 5).toInt = ((r + 1 : Nat) : Int) := q3
    rw [if_pos z]
    refine gOk_chk (Or.inr q1) (gOk_some ⟨F.tr (q2.up cpP_cc), q3, q1, fun _ => ⟨by show (μ27 3 0 x).toInt = _; rw [q2 3 0 x (by unfold cpP; omega)]; exact h3, by show (μ27 4 0 x).toInt = _; rw [q2 4 0 x (by unfold cpP; omega)]; exact h4, fun y => by show (μ27 5 0 x).toInt = _; rw [q2 5 0 x (by unfold cpP; omega)]; exact h5 y⟩⟩)
  · have hq := hq.2 (Bool.eq_false_iff.mpr z)
    have q1 : r26 = 0 := congrArg Prod.fst hq
    have q2 : μ27 = μ1 := congrArg Prod.snd hq
    rw [if_neg z, q2]
    exact gOk_chk (Or.inl q1) (gOk_some ⟨F, hp, q1, fun y => by cases y⟩)
theorem mX5_parseCommand_ok (h : BuC μ β len) (hp : (μ 1 0 5).toInt = (p : Int)) (hpl : p ≤ len) (hx : x < 16) (h1 : a1.toInt = (x : Int)) : gOk (mX5_parseCommand nc a1 μ) (ccPost β len p x μ) := by
  have hl80 := h.2.1
  unfold mX5_parseCommand
  refine gOk_lee (fun x1 hx1 => ?_)
  have e1 : x1.toInt = (p : Int) := by rw [hx1]; exact hp
  obtain ⟨ge1, ge2, ge3⟩ := zWe_ge (β := β) (len := len) 80 p
  have ge2 := ge2 hpl
  refine gOk_jq (γ := gM) (fun μ5 => gFr cpP μ μ5 ∧ (μ5 1 0 5).toInt = (zWe β len 80 p : Int)) (fun μ5 hc => ?_) (fun j6 hj6 => ?_)
  · obtain ⟨F5, p5⟩ := hc
    have b5 := h.fp F5
    have hcmd := zCmd_eq (β := β) (len := len) (p := p)
    have hbad : zWn β p (zWe β len 80 p - p) 7 < 0 → zCmd β len p = (false, p, 0, 0, 0) := fun z => by unfold zCmd; rw [if_pos z]
    have hrg := zWn_rg (β := β) (p := p) (m := zWe β len 80 p - p) 7
    refine gOk_bp (mX5_wordFrom_ok b5 p5 e1 ge1 ge2 ge3) (fun r8 h8 => ?_)
    generalize zWn β p (zWe β len 80 p - p) 7 = Wn at *
    generalize zWe β len 80 p = E at *
    refine gOk_eq h8 ti_m1 (fun z => gOk_let (gOk_some ?_)) (fun z => ?_)
    · unfold ccPost
      rw [hbad (by omega)]
      exact ⟨(F5.up cpP_cc).tr (gFr.w ⟨rfl, Or.inl ⟨rfl, rfl⟩⟩), by show (w3 μ5 1 0 5 x1 1 0 5).toInt = _; rw [w3_at]; exact e1, rfl, fun y => by cases y⟩
    · have hW := hcmd (by omega)
      obtain ⟨w, hw, hw7⟩ : ∃ w : Nat, Wn = (w : Int) ∧ w < 7 := ⟨Wn.toNat, by omega, by omega⟩
      have hwn : Wn.toNat = w := by omega
      rw [hwn] at hW
      simp only [ti_cl h1]
      refine gOk_chk (ti_inb h1 hx) (gOk_lee (fun μ11 h11 => ?_))
      have F11 : gFr (ccP x) μ μ11 := (F5.up cpP_cc).tr (by rw [h11]; exact gFr.w ⟨rfl, Or.inr ⟨by omega, by omega, rfl⟩⟩)
      have b11 := h.fr F11
      have p11 : (μ11 1 0 5).toInt = (E : Int) := by rw [h11, w3_o _ _ (by omega)]; exact p5
      have v3 : (μ11 3 0 x).toInt = (w : Int) := by rw [h11, w3_at, h8, hw]
      have fail : ∀ (μ2 : gM) (r : Nat), gFr (ccP x) μ μ2 → (μ2 1 0 5).toInt = (r : Int) → zCmd β len p = (false, r, 0, 0, 0) → gOk (some ((0 : Int32), μ2)) (ccPost β len p x μ) := fun μ2 r f2 p2 e2 => by
        refine gOk_some ?_
        unfold ccPost
        rw [e2]
        exact ⟨f2, p2, rfl, fun y => by cases y⟩
      refine gOk_bd (mX5_skip_ok b11 p11 (c := 32) rfl) (fun r14 μ15 hq => ?_)
      by_cases y : zSee β len E 32 32 = true
      · obtain ⟨q1, F15, p15⟩ := hq.1 y
        have q1 : r14 = 1 := q1
        have F15 : gFr cpP μ11 μ15 := F15
        have p15 : (μ15 1 0 5).toInt = ((E + 1 : Nat) : Int) := p15
        rw [if_pos y] at hW
        have hEl := (zSee_lt y).1
        refine gOk_if (fun u => absurd (q1.symm.trans u) (by decide)) (fun _ => ?_)
        have b15 := b11.fp F15
        refine gOk_bd (mX5_parseNumber_ok b15 p15 (by omega) (Or.inl rfl) hx h1) (fun r18 μ19 hq2 => ?_)
        obtain ⟨F19, p19, v19, l19, k19⟩ := hq2
        have F19 : gFr (fun f i j => i = 0 ∧ (f = 1 ∧ j = 5 ∨ f = 4 ∧ j = x)) μ15 μ19 := F19
        have p19 : (μ19 1 0 5).toInt = ((zNm β len 3 0 (E + 1)).2 : Int) := p19
        have v19 : (μ19 4 0 x).toInt = ((zNm β len 3 0 (E + 1)).1 : Int) := v19
        have k19 : r18 = _ := k19
        have FF19 : gFr (ccP x) μ μ19 := F11.tr ((F15.up cpP_cc).tr (F19.up cn4_cc))
        have b19 := h.fr FF19
        have c3 : (μ19 3 0 x).toInt = (w : Int) := by rw [F19 3 0 x (by omega), F15 3 0 x (by unfold cpP; omega)]; exact v3
        by_cases u : zSee β len (E + 1) 48 57 = true
        · rw [if_pos u] at k19
          refine gOk_if (fun t => absurd (k19.symm.trans t) (by decide)) (fun _ => ?_)
          have one : ¬ (3 ≤ w ∧ w ≤ 5) → gOk (gBd (mX5_skip nc 59 μ19) fun r26 μ27 => gChk (r26 = 0 ∨ r26 = 1) <| some (r26, μ27)) (ccPost β len p x μ) := fun hw35 => mX5_last_ok (s := 0) b19 FF19 p19 c3 v19 (fun t => absurd t hw35) (by rw [hW]; unfold zC2; rw [if_pos u, if_neg hw35])
          have two : (3 ≤ w ∧ w ≤ 5) → ∀ {j : gM → Option (Int32 × gM)}, (∀ μ2, gFr (ccP x) μ μ2 → (μ2 1 0 5).toInt = ((zNm β len 3 0 ((zNm β len 3 0 (E + 1)).2 + 1)).2 : Int) → (μ2 3 0 x).toInt = (w : Int) → (μ2 4 0 x).toInt = ((zNm β len 3 0 (E + 1)).1 : Int) → (μ2 5 0 x).toInt = ((zNm β len 3 0 ((zNm β len 3 0 (E + 1)).2 + 1)).1 : Int) → zCmd β len p = zC3 β len w (zNm β len 3 0 (E + 1)).1 (zNm β len 3 0 ((zNm β len 3 0 (E + 1)).2 + 1)).1 (zNm β len 3 0 ((zNm β len 3 0 (E + 1)).2 + 1)).2 → gOk (j μ2) (ccPost β len p x μ)) → gOk (
                  gBd (mX5_skip nc 44 μ19) fun r31 μ32 =>
                  if r31 = 0 then
                    some ((0 : Int32), μ32)
                  else
                    gBd (mX5_parseNumber nc 5 0 a1 μ32) fun r35 μ36 =>
                    if r35 = 0 then
                      some (0, μ36)
                    else
                      j μ36) (ccPost β len p x μ) := fun hw35 j hj => by
            refine gOk_bd (mX5_skip_ok b19 p19 (c := 44) rfl) (fun r31 μ32 hq3 => ?_)
            by_cases t : zSee β len (zNm β len 3 0 (E + 1)).2 44 44 = true
            · obtain ⟨g1, F32, p32⟩ := hq3.1 t
              have g1 : r31 = 1 := g1
              have F32 : gFr cpP μ19 μ32 := F32
              have p32 : (μ32 1 0 5).toInt = (((zNm β len 3 0 (E + 1)).2 + 1 : Nat) : Int) := p32
              have htl := (zSee_lt t).1
              refine gOk_if (fun s => absurd (g1.symm.trans s) (by decide)) (fun _ => ?_)
              refine gOk_bd (mX5_parseNumber_ok (b19.fp F32) p32 (by omega) (Or.inr rfl) hx h1) (fun r35 μ36 hq4 => ?_)
              obtain ⟨F36, p36, v36, l36, k36⟩ := hq4
              have F36 : gFr (fun f i j => i = 0 ∧ (f = 1 ∧ j = 5 ∨ f = 5 ∧ j = x)) μ32 μ36 := F36
              have p36 : (μ36 1 0 5).toInt = _ := p36
              have k36 : r35 = _ := k36
              have FF36 : gFr (ccP x) μ μ36 := FF19.tr ((F32.up cpP_cc).tr (F36.up cn5_cc))
              by_cases s : zSee β len ((zNm β len 3 0 (E + 1)).2 + 1) 48 57 = true
              · rw [if_pos s] at k36
                refine gOk_if (fun a => absurd (k36.symm.trans a) (by decide)) (fun _ => hj μ36 FF36 p36 ?_ ?_ v36 ?_)
                · rw [F36 3 0 x (by omega), F32 3 0 x (by unfold cpP; omega)]; exact c3
                · rw [F36 4 0 x (by omega), F32 4 0 x (by unfold cpP; omega)]; exact v19
                · rw [hW]; unfold zC2; rw [if_pos u, if_pos hw35, if_pos t, if_pos s]
              · rw [if_neg s] at k36
                refine gOk_if (fun _ => fail μ36 ((zNm β len 3 0 (E + 1)).2 + 1) FF36 ?_ ?_) (fun a => absurd k36 a)
                · rw [p36, zNm_no s]
                · rw [hW]; unfold zC2; rw [if_pos u, if_pos hw35, if_pos t, if_neg s]
            · have hq3 := hq3.2 (Bool.eq_false_iff.mpr t)
              have g1 : r31 = 0 := congrArg Prod.fst hq3
              have g2 : μ32 = μ19 := congrArg Prod.snd hq3
              rw [g2]
              refine gOk_if (fun _ => fail μ19 _ FF19 p19 ?_) (fun a => absurd g1 a)
              rw [hW]; unfold zC2; rw [if_pos u, if_pos hw35, if_neg t]
          have fin : (3 ≤ w ∧ w ≤ 5) → ∀ μ2, gFr (ccP x) μ μ2 → (μ2 1 0 5).toInt = ((zNm β len 3 0 ((zNm β len 3 0 (E + 1)).2 + 1)).2 : Int) → (μ2 3 0 x).toInt = (w : Int) → (μ2 4 0 x).toInt = ((zNm β len 3 0 (E + 1)).1 : Int) → (μ2 5 0 x).toInt = ((zNm β len 3 0 ((zNm β len 3 0 (E + 1)).2 + 1)).1 : Int) → zCmd β len p = zC3 β len w (zNm β len 3 0 (E + 1)).1 (zNm β len 3 0 ((zNm β len 3 0 (E + 1)).2 + 1)).1 (zNm β len 3 0 ((zNm β len 3 0 (E + 1)).2 + 1)).2 → gOk (gBd (mX5_skip nc 59 μ2) fun r26 μ27 => gChk (r26 = 0 ∨ r26 = 1) <| some (r26, μ27)) (ccPost β len p x μ) := fun hw35 μ2 f2 p2 c2 d2 s2 e2 => mX5_last_ok (h.fr f2) f2 p2 c2 d2 (fun _ => s2) e2
          have h8' : r8.toInt = (w : Int) := by rw [h8, hw]
          refine gOk_jq (γ := Int32) (fun x21 => x21 = 1 ∧ (3 ≤ w ∧ w ≤ 5)) (fun x21 hc => ?_) (fun j22 hj22 => gOk_jq (γ := Unit) (fun _ => 3 ≤ w ∧ w ≤ 5) (fun _ hc => hj22 1 ⟨rfl, hc⟩) (fun j38 hj38 => ?_))
          · obtain ⟨hc1, hc2⟩ := hc
            refine gOk_jon (gOk_if (fun t => absurd (hc1.symm.trans t) (by decide)) (fun _ => two hc2 (fin hc2)))
          · refine gOk_eq h8' (y := 3) (b := 3) rfl (fun t => hj38 () (by omega)) (fun t => gOk_eq h8' (y := 4) (b := 4) rfl (fun s => hj38 () (by omega)) (fun s => gOk_lee (fun x42 h42 => gOk_jon ?_)))
            by_cases w5 : w = 5
            · rw [if_pos (show r8 = 5 from ti_eq h8' (by rw [w5]; rfl))] at h42
              exact gOk_if (fun a => absurd (h42.symm.trans a) (by decide)) (fun _ => two (by omega) (fin (by omega)))
            · rw [if_neg (show ¬ r8 = 5 from fun a => w5 (by rw [a] at h8'; have : (5 : Int32).toInt = 5 := rfl; omega))] at h42
              exact gOk_if (fun _ => one (by omega)) (fun a => absurd h42 a)
        · rw [if_neg u] at k19
          refine gOk_if (fun _ => fail μ19 (E + 1) FF19 ?_ ?_) (fun t => absurd k19 t)
          · rw [p19, zNm_no u]
          · rw [hW]; unfold zC2; rw [if_neg u]
      · have hq := hq.2 (Bool.eq_false_iff.mpr y)
        have q1 : r14 = 0 := congrArg Prod.fst hq
        have q2 : μ15 = μ11 := congrArg Prod.snd hq
        rw [q2]
        rw [if_neg y] at hW
        exact gOk_if (fun _ => fail μ11 E F11 p11 hW) (fun u => absurd q1 u)
  · refine gOk_fx1 (fun v (μ48 : gM) => ∃ (k q : Nat), v = len - q ∧ len ≤ q + k ∧ q ≤ len ∧ zWe β len k q = zWe β len 80 p ∧ gFr cpP μ μ48 ∧ (μ48 1 0 5).toInt = (q : Int)) ?_ 1000000 (len - p) _ (by omega) ⟨80, p, rfl, by omega, hpl, rfl, gFr.rf, hp⟩
    intro rec v μ48 hI ih
    obtain ⟨k, q, hv, k1, k2, k3, k4, k5⟩ := hI
    subst hv
    have b48 := h.fp k4
    have stop : zSee β len q 97 122 = false → gOk (j6 μ48) (ccPost β len p x μ) := fun z => hj6 _ ⟨k4, by rw [← k3, zWe_stop z]; exact k5⟩
    refine gOk_le b48.1 k5 (fun y => stop ?_) (fun y => ?_)
    · cases z : zSee β len q 97 122 with
      | false => rfl
      | true => have := (zSee_lt z).1; omega
    · refine gOk_bp (mX5_isBetween_ok b48 k5 (a1 := 97) (a2 := 122) (lo := 97) (hi := 122) rfl rfl) (fun r51 h51 => ?_)
      by_cases z : zSee β len q 97 122 = true
      · rw [if_pos z] at h51
        obtain ⟨k', rfl⟩ : ∃ k', k = k' + 1 := ⟨k - 1, by omega⟩
        unfold zWe at k3
        rw [if_pos z] at k3
        refine gOk_if (fun y => absurd (h51.symm.trans y) (by decide)) (fun _ => gOk_let (ih _ (len - (q + 1)) (by omega) ⟨k', q + 1, rfl, by omega, by omega, ?_, k4.tr (gFr.w ⟨rfl, rfl, rfl⟩), by rw [w3_at, ti_add k5 (y := 1) (b := 1) rfl (by omega) (by omega)]; omega⟩))
        rw [k3]
        unfold zWe
        rfl
      · rw [if_neg z] at h51
        exact gOk_if (fun _ => stop (Bool.eq_false_iff.mpr z)) (fun y => absurd h51 y)
/-- the cells of reading a whole script -/
def caP : Nat → Nat → Nat → Prop := fun f i j => i = 0 ∧ (f = 1 ∧ j = 5 ∨ 3 ≤ f ∧ f ≤ 5)
theorem ccP_ca : ∀ f i j, ccP x f i j → caP f i j := fun f i j h => ⟨h.1, by have := h.2; omega⟩
theorem mX5_parse_ok (h : BuC μ β len) {cs : List (Nat × Nat × Nat)} {ok : Bool} {pos : Nat} (hps : zPs β len 80 0 = (cs, ok, pos)) : gOk (mX5_parse nc μ) (fun q => gFr caP μ q.2 ∧ (ok = false → q.1.toInt = -100 - (pos : Int)) ∧ (ok = true → q.1.toInt = (cs.length : Int) ∧ ∀ (i : Nat) (c : Nat × Nat × Nat), cs[i]? = some c → (q.2 3 0 i).toInt = (c.1 : Int) ∧ (q.2 4 0 i).toInt = (c.2.1 : Int) ∧ (3 ≤ c.1 ∧ c.1 ≤ 5 → (q.2 5 0 i).toInt = (c.2.2 : Int)))) := by
  have hl80 := h.2.1
  have hl := zPs_len (β := β) (len := len) 80 0 (Nat.zero_le _)
  rw [hps] at hl
  have hl : 0 + 6 * cs.length ≤ len := hl
  unfold mX5_parse
  refine gOk_lee (fun μ1 h1 => ?_)
  have F1 : gFr caP μ μ1 := by rw [h1]; exact gFr.w ⟨rfl, Or.inl ⟨rfl, rfl⟩⟩
  have bf : ∀ {μ' : gM}, gFr caP μ μ' → BuC μ' β len := fun F => ⟨by rw [F 1 0 4 (by unfold caP; omega)]; exact h.1, hl80, fun i hi => by rw [F 2 0 i (by unfold caP; omega)]; exact h.2.2 i hi⟩
  refine gOk_jq (γ := gM) (fun μ3 => gFr caP μ μ3 ∧ ok = false ∧ (μ3 1 0 5).toInt = (pos : Int) ∧ pos ≤ 1000) (fun μ3 hc => gOk_lee (fun x5 h5 => gOk_some ⟨hc.1, fun _ => ?_, fun z => by rw [hc.2.1] at z; cases z⟩)) (fun j4 hj4 => ?_)
  · show x5.toInt = _
    have := hc.2.2.2
    rw [h5]
    exact ti_sub (x := -100) (a := -100) (by decide +kernel) hc.2.2.1 (by omega) (by omega)
  · refine gOk_fx2 (fun v (x9 : Int32) (μ10 : gM) => ∃ (i k p : Nat), v = len - p ∧ x9.toInt = (i : Int) ∧ 1 ≤ k ∧ p ≤ len ∧ len ≤ p + k ∧ 6 * i ≤ p ∧ (i = 0 ∨ p < len) ∧ gFr caP μ μ10 ∧ (μ10 1 0 5).toInt = (p : Int) ∧ (zPs β len k p).2 = (ok, pos) ∧ (zPs β len k p).1 = cs.drop i ∧ i ≤ cs.length ∧ ∀ (t : Nat) (c : Nat × Nat × Nat), t < i → cs[t]? = some c → (μ10 3 0 t).toInt = (c.1 : Int) ∧ (μ10 4 0 t).toInt = (c.2.1 : Int) ∧ (3 ≤ c.1 ∧ c.1 ≤ 5 → (μ10 5 0 t).toInt = (c.2.2 : Int))) ?_ 1000000 (len - 0) _ _ (by omega) ⟨0, 80, 0, rfl, rfl, by omega, Nat.zero_le _, by omega, Nat.le_refl _, Or.inl rfl, F1, by rw [h1, w3_at]; rfl, by rw [hps], by rw [hps]; rfl, Nat.zero_le _, fun t c ht => absurd ht (Nat.not_lt_zero t)⟩
    intro rec v x9 μ10 hI ih
    obtain ⟨i, k, p, hv, i1, i2, i3, i4, i5, i5a, i6, i7, i8, i9, i10, i11⟩ := hI
    subst hv
    rw [zPs_step i2] at i8 i9
    have hi16 : i < 16 := by omega
    refine gOk_bd (mX5_parseCommand_ok (bf i6) i7 i3 hi16 i1) (fun r13 μ14 hq => ?_)
    obtain ⟨F14, p14, k14, v14⟩ := hq
    have F14 : gFr (ccP i) μ10 μ14 := F14
    have p14 : (μ14 1 0 5).toInt = _ := p14
    have k14 : r13 = _ := k14
    have FF : gFr caP μ μ14 := i6.tr (F14.up ccP_ca)
    have l14 := (bf FF).1
    by_cases y : (zCmd β len p).1 = true
    · rw [if_pos y] at i8 i9 k14
      obtain ⟨o1, o2, -⟩ := zCmd_ok y
      obtain ⟨v3, v4, v5⟩ := v14 y
      have v3 : (μ14 3 0 i).toInt = _ := v3
      have v4 : (μ14 4 0 i).toInt = _ := v4
      refine gOk_if (fun z => absurd (k14.symm.trans z) (by decide)) (fun _ => ?_)
      have e9 : (x9 + 1).toInt = ((i + 1 : Nat) : Int) := by rw [ti_add i1 (y := 1) (b := 1) rfl (by omega) (by omega)]; omega
      have hil : i < cs.length := by
        refine Nat.lt_of_not_le (fun z => ?_)
        rw [List.drop_eq_nil_of_le z] at i9
        by_cases u : (zCmd β len p).2.1 < len
        · rw [if_pos u] at i9; cases i9
        · rw [if_neg u] at i9; cases i9
      have hdrop := List.drop_eq_getElem_cons hil
      have hci : cs[i] = (zCmd β len p).2.2 := by
        rw [hdrop] at i9
        by_cases u : (zCmd β len p).2.1 < len
        · rw [if_pos u] at i9; exact (List.cons.inj i9).1.symm
        · rw [if_neg u] at i9; exact (List.cons.inj i9).1.symm
      have rows : ∀ (t : Nat) (c : Nat × Nat × Nat), t < i + 1 → cs[t]? = some c → (μ14 3 0 t).toInt = (c.1 : Int) ∧ (μ14 4 0 t).toInt = (c.2.1 : Int) ∧ (3 ≤ c.1 ∧ c.1 ≤ 5 → (μ14 5 0 t).toInt = (c.2.2 : Int)) := fun t c ht hc => by
        by_cases u : t = i
        · subst u
          rw [List.getElem?_eq_getElem hil] at hc
          rw [← Option.some.inj hc, hci]
          exact ⟨v3, v4, v5⟩
        · rw [F14 3 0 t (by unfold ccP; omega), F14 4 0 t (by unfold ccP; omega), F14 5 0 t (by unfold ccP; omega)]
          exact i11 t c (by omega) hc
      have last : ¬ (zCmd β len p).2.1 < len → gOk (some (x9 + 1, μ14)) (fun q => gFr caP μ q.2 ∧ (ok = false → q.1.toInt = -100 - (pos : Int)) ∧ (ok = true → q.1.toInt = (cs.length : Int) ∧ ∀ (i : Nat) (c : Nat × Nat × Nat), cs[i]? = some c → (q.2 3 0 i).toInt = (c.1 : Int) ∧ (q.2 4 0 i).toInt = (c.2.1 : Int) ∧ (3 ≤ c.1 ∧ c.1 ≤ 5 → (q.2 5 0 i).toInt = (c.2.2 : Int)))) := fun z => by
        rw [if_neg z] at i8 i9
        have q1 : true = ok := (Prod.ext_iff.mp i8).1
        have hcl : cs.length = i + 1 := by
          have := congrArg List.length i9
          rw [List.length_drop] at this
          have : 1 = cs.length - i := this
          omega
        refine gOk_some ⟨FF, fun u => (by rw [← q1] at u; cases u), fun _ => ⟨by rw [hcl]; exact e9, fun t c hc => rows t c (by have := (List.getElem?_eq_some_iff.mp hc).1; omega) hc⟩⟩
      refine gOk_le l14 p14 (fun z => last (by omega)) (fun z => ?_)
      have hlt : (zCmd β len p).2.1 < len := by omega
      rw [if_pos hlt] at i8 i9
      refine gOk_lt e9 (y := 16) (b := 16) rfl (fun _ => ih _ _ (len - (zCmd β len p).2.1) (by omega) ⟨i + 1, k - 1, (zCmd β len p).2.1, rfl, e9, by omega, by omega, by omega, by omega, Or.inr hlt, FF, p14, i8, ?_, hil, rows⟩) (fun u => absurd u (by omega))
      rw [hdrop] at i9
      exact (List.cons.inj i9).2
    · rw [if_neg y] at i8 k14
      have q1 : false = ok := (Prod.ext_iff.mp i8).1
      have q2 : (zCmd β len p).2.1 = pos := (Prod.ext_iff.mp i8).2
      have hle := zCmd_le (β := β) i3
      exact gOk_if (fun _ => hj4 μ14 ⟨FF, q1.symm, by rw [← q2]; exact p14, by omega⟩) (fun u => absurd k14 u)
end SqScr5
