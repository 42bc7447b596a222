/-! The class's calls: what each answers, or throws, and does to the state. -/
abbrev eIO : String := "java/lang/IndexOutOfBoundsException"
abbrev eIA : String := "java/lang/IllegalArgumentException"
abbrev eIS : String := "java/lang/IllegalStateException"
abbrev eUO : String := "java/lang/UnsupportedOperationException"
abbrev eAR : String := "java/lang/ArithmeticException"
abbrev eNS : String := "java/util/NoSuchElementException"
/-- the exception of a code, by the order in which the law catches -/
def exc (l : List String) (k : Nat) : String := l.getD (k - 1) ""
/-- a call that may change the state -/
def cPost (P : Nat → Nat → Nat → Prop) (μ : gM) (l : List String) (res : sqRs) (q : Sum (String × gM) (Int32 × gM)) : Prop := match q with
  | .inl p => res.1 ≠ 0 ∧ p.1 = exc l res.1 ∧ gFr P μ p.2 ∧ RB p.2 0 res.2.2
  | .inr p => res.1 = 0 ∧ p.1.toInt = res.2.1 ∧ gFr P μ p.2 ∧ RB p.2 0 res.2.2
/-- a question -/
def cAns (μ : gM) (l : List String) (res : sqRs) (q : Sum (String × gM) Int32) : Prop := match q with
  | .inl p => res.1 ≠ 0 ∧ p.1 = exc l res.1 ∧ p.2 = μ
  | .inr v => res.1 = 0 ∧ v.toInt = res.2.1
section SqCa1
variable {μ μ' μ1 : gM} {n g b k i nc B t t1 s q kk q0 k0 : Nat} {l : List sqE} {a1 a2 a3 a4 : Int32} {e : sqE} {m : sqMs} {S S' : sqSt} {N : sqN} {h : sqH} {P : Nat → Nat → Nat → Prop} {ls : List String} {ex : String}
theorem cNo (R : RB μ 0 S) {c : Nat} {v : Int} (hc : c ≠ 0) (hs : ex = exc ls c) : cPost P μ ls (c, v, S) (.inl (ex, μ)) := ⟨hc, hs, gFr.rf, R⟩
theorem cYes {x : Int32} {v : Int} (hx : x.toInt = v) (F : gFr P μ μ') (R : RB μ' 0 S') : cPost P μ ls (0, v, S') (.inr (x, μ')) := ⟨rfl, hx, F, R⟩
theorem aNo {c : Nat} {v : Int} (hc : c ≠ 0) (hs : ex = exc ls c) : cAns μ ls (c, v, S) (.inl (ex, μ)) := ⟨hc, hs, rfl⟩
theorem aYes {x : Int32} {v : Int} (hx : x.toInt = v) : cAns μ ls (0, v, S) (.inr x) := ⟨rfl, hx⟩
theorem gOk_bx {α β : Type} {o : Option (Sum (String × gM) α)} {k : α → Option (Sum (String × gM) β)} {P : Sum (String × gM) α → Prop} {Q : Sum (String × gM) β → Prop} (h : gOk o P) (hl : ∀ x, P (.inl x) → Q (.inl x)) (hr : ∀ a, P (.inr a) → gOk (k a) Q) : gOk (gBx o k) Q := by
  obtain ⟨a, e, p⟩ := h
  subst e
  cases a with
  | inl x => exact ⟨_, rfl, hl x p⟩
  | inr a => exact hr a p
theorem mX6_replicaAt_ok (μ : gM) (a1 : Int32) : gOk (mX6_replicaAt nc a1 μ) (fun q => (¬ (0 ≤ a1.toInt ∧ a1.toInt < 5) → q = .inl (eIO, μ)) ∧ ((0 ≤ a1.toInt ∧ a1.toInt < 5) → q = .inr (5 * 0 + a1.toInt.toNat))) := by
  unfold mX6_replicaAt
  refine gOk_jq (γ := Unit) (fun _ => ¬ (0 ≤ a1.toInt ∧ a1.toInt < 5)) (fun _ hc => gOk_some ⟨fun _ => rfl, fun z => absurd z hc⟩) (fun j1 hj1 => ?_)
  refine gOk_lt (x := a1) rfl (y := 0) (b := 0) rfl (fun z => hj1 () (by omega)) (fun z => gOk_lt (x := a1) rfl (y := 5) (b := 5) rfl (fun w => ?_) (fun w => hj1 () (by omega)))
  have e : a1.toInt = ((a1.toInt.toNat : Nat) : Int) := by omega
  refine gOk_chk (ti_inb e (by omega)) (gOk_some ⟨fun y => absurd ⟨z, w⟩ y, fun _ => ?_⟩)
  rw [ti_cl e]
theorem gOk_rep {β : Type} {k : Nat → Option (Sum (String × gM) β)} {Q : Sum (String × gM) β → Prop} (h0 : ¬ (0 ≤ a1.toInt ∧ a1.toInt < 5) → Q (.inl (eIO, μ))) (h1 : ∀ n : Nat, n < 5 → a1.toInt = (n : Int) → a1.toInt.toNat = n → gOk (k (5 * 0 + n)) Q) : gOk (gBx (mX6_replicaAt nc a1 μ) k) Q := by
  refine gOk_bx (mX6_replicaAt_ok μ a1) (fun x hx => ?_) (fun a hx => ?_)
  · by_cases c : 0 ≤ a1.toInt ∧ a1.toInt < 5
    · exact absurd (hx.2 c) (by intro z; cases z)
    · have := hx.1 c
      injection this with this
      rw [this]; exact h0 c
  · by_cases c : 0 ≤ a1.toInt ∧ a1.toInt < 5
    · have := hx.2 c
      injection this with this
      rw [this]
      exact h1 _ (by omega) (by omega) rfl
    · exact absurd (hx.1 c) (by intro z; cases z)
theorem mX6_isNode_ok2 (μ : gM) (a1 : Int32) : gOk (mX6_isNode nc a1 μ) (fun r => r = if 0 ≤ a1.toInt ∧ a1.toInt < 5 then 1 else 0) := by
  unfold mX6_isNode
  refine gOk_lt (x := a1) rfl (y := 0) (b := 0) rfl (fun z => gOk_some ?_) (fun z => gOk_le (x := 5) (a := 5) rfl (y := a1) rfl (fun w => gOk_some ?_) (fun w => gOk_some ?_))
  · rw [if_neg (by omega)]
  · rw [if_neg (by omega)]
  · rw [if_pos (by omega)]
theorem mX6_isGroup_ok (μ : gM) (a1 : Int32) : gOk (mX6_isGroup nc a1 μ) (fun r => r = if 1 ≤ a1.toInt ∧ a1.toInt ≤ 31 then 1 else 0) := by
  unfold mX6_isGroup
  refine gOk_le (x := a1) rfl (y := 0) (b := 0) rfl (fun z => gOk_some ?_) (fun z => gOk_le (x := 32) (a := 32) rfl (y := a1) rfl (fun w => gOk_some ?_) (fun w => gOk_some ?_))
  · rw [if_neg (by omega)]
  · rw [if_neg (by omega)]
  · rw [if_pos (by omega)]
theorem mX6_areTicks_ok (μ : gM) (a1 : Int32) : gOk (mX6_areTicks nc a1 μ) (fun r => r = if 1 ≤ a1.toInt ∧ a1.toInt ≤ 60 then 1 else 0) := by
  unfold mX6_areTicks
  refine gOk_lt (x := a1) rfl (y := 1) (b := 1) rfl (fun z => gOk_some ?_) (fun z => gOk_lt (x := 60) (a := 60) rfl (y := a1) rfl (fun w => gOk_some ?_) (fun w => gOk_some ?_))
  · rw [if_neg (by omega)]
  · rw [if_neg (by omega)]
  · rw [if_pos (by omega)]
/-- a test that was made: 1 or 0 -/
theorem gOk_t01 {β : Type} {c : Prop} [Decidable c] {r : Int32} (hr : r = if c then 1 else 0) {A C : Option β} {Q : β → Prop} (h0 : ¬ c → gOk A Q) (h1 : c → gOk C Q) : gOk (if r = 0 then A else C) Q := by
  by_cases z : c
  · rw [if_pos z] at hr
    rw [if_neg (by rw [hr]; decide)]
    exact h1 z
  · rw [if_neg z] at hr
    rw [if_pos hr]
    exact h0 z
theorem mX6_start_ok (R : RB μ 0 S) : gOk (mX6_start nc a1 a2 μ) (cPost (rbP 0) μ [eIA] (zaStart S a1.toInt a2)) := by
  unfold mX6_start zaStart
  refine gOk_bp (mX6_isGroup_ok μ a1) (fun r2 h2 => gOk_t01 h2 (fun z => ?_) (fun z => ?_))
  · rw [if_neg z]
    exact gOk_some (cNo R (by decide) rfl)
  · rw [if_pos z]
    have e1 : a1.toInt = ((a1.toInt.toNat : Nat) : Int) := by omega
    refine gOk_bp (mX0_begin_ok R.w e1) (fun μ5 h5 => gOk_bp (mJ6_bitCount_ok e1 (by omega)) (fun r7 h7 => gOk_some (cYes h7 h5.1 h5.2)))
theorem mX6_tick_ok (R : RY B μ 0 S) (hB : B + 96 * 60 + 200 < 800000000) (hnc : 0 < nc ∧ nc ≤ 2) : gOk (mX6_tick nc a1 μ) (cPost (rbP 0) μ [eIA] (zaTick S a1.toInt)) := by
  unfold mX6_tick zaTick
  refine gOk_bp (mX6_areTicks_ok μ a1) (fun r2 h2 => gOk_t01 h2 (fun z => ?_) (fun z => ?_))
  · rw [if_neg z]
    exact gOk_some (cNo R.1 (by decide) rfl)
  · rw [if_pos z]
    refine gOk_bp (mX0_advance_ok R (T := a1.toInt.toNat) (by omega) (by omega) hnc.1 hnc.2 (by omega)) (fun μ5 h5 => gOk_some (cYes ?_ h5.1 h5.2.1))
    rw [h5.2.1.2.2.2.1]
    have := (zIL.tick a1.toInt.toNat B S R.2.1).2
    rw [this]
theorem mX6_setDelay_ok (R : RB μ 0 S) : gOk (mX6_setDelay nc a1 μ) (cPost (rbP 0) μ [eIA] (zaDelay S a1.toInt)) := by
  unfold mX6_setDelay zaDelay
  refine gOk_jq (γ := Unit) (fun _ => ¬ (1 ≤ a1.toInt ∧ a1.toInt ≤ 5)) (fun _ hc => ?_) (fun j1 hj1 => ?_)
  · rw [if_neg hc]
    exact gOk_some (cNo R (by decide) rfl)
  · refine gOk_lt (x := a1) rfl (y := 1) (b := 1) rfl (fun z => hj1 () (by omega)) (fun z => gOk_le (x := a1) rfl (y := 5) (b := 5) rfl (fun w => ?_) (fun w => hj1 () (by omega)))
    rw [if_pos ⟨z, w⟩]
    have F : gFr (npP 0) μ (w3 μ 9 0 5 a1) := gFr.w ⟨rfl, by omega⟩
    refine gOk_let (gOk_let (gOk_some (cYes R.1.2.2.2.2.1 (F.up npP_rb) (R.net ?_ (fun f i j y => w3_o _ _ (by omega))))))
    obtain ⟨k1, k2, k3, k4, k5, k6, k7, k8⟩ := R.1
    have hp : ∀ i, nwP (w3 μ 9 0 5 a1) 0 i = nwP μ 0 i := fun i => nwP_cg (fun _ => w3_o _ _ (by omega)) (fun _ => w3_o _ _ (by omega)) (fun _ => w3_o _ _ (by omega))
    refine ⟨k1.perm (fun i => i) (fun i _ => hp i) (fun i hi => hi) (fun i j _ _ e => e), by rw [w3_o _ _ (by omega)]; exact k2, k3, fun i j hi hj => by rw [w3_o _ _ (by omega)]; exact k4 i j hi hj, ?_, by rw [w3_o _ _ (by omega)]; exact k6, by rw [w3_o _ _ (by omega)]; exact k7, fun i m hm => by rw [hp i]; exact (k8 i m hm).np F⟩
    rw [w3_at]
    show a1.toInt = ((a1.toInt.toNat : Nat) : Int)
    omega
theorem mX6_setLink_ok (R : RB μ 0 S) : gOk (mX6_setLink nc a1 a2 a3 μ) (cPost (rbP 0) μ [eIO, eIA] (zaLink S a1.toInt a2.toInt (decide (a3 ≠ 0)))) := by
  unfold mX6_setLink zaLink
  refine gOk_bp (mX6_isNode_ok2 μ a1) (fun r2 h2 => gOk_jq (γ := Unit) (fun _ => ¬ ((0 ≤ a1.toInt ∧ a1.toInt < 5) ∧ (0 ≤ a2.toInt ∧ a2.toInt < 5))) (fun _ hc => ?_) (fun j3 hj3 => gOk_t01 h2 (fun z => hj3 () (fun y => z y.1)) (fun z => ?_)))
  · rw [if_pos hc]
    exact gOk_some (cNo R (by decide) rfl)
  · refine gOk_bp (mX6_isNode_ok2 μ a2) (fun r7 h7 => gOk_t01 h7 (fun w => hj3 () (fun y => w y.2)) (fun w => ?_))
    rw [if_neg (show ¬ ¬ ((0 ≤ a1.toInt ∧ a1.toInt < 5) ∧ (0 ≤ a2.toInt ∧ a2.toInt < 5)) from fun y => y ⟨z, w⟩)]
    refine gOk_eq (x := a1) rfl (y := a2) rfl (fun y => ?_) (fun y => ?_)
    · rw [if_pos y]
      exact gOk_some (cNo R (by decide) rfl)
    · rw [if_neg y]
      refine gOk_bp (mX3_isCut_ok R.1 (c := a1.toInt.toNat) (d := a2.toInt.toNat) (by omega) (by omega) (by omega) (by omega)) (fun r11 h11 => ?_)
      refine gOk_bp (mX3_setCut_ok R (c := a1.toInt.toNat) (d := a2.toInt.toNat) (by omega) (by omega) (by omega) (by omega)) (fun μ13 h13 => ?_)
      by_cases x : zcu S a1.toInt.toNat a2.toInt.toNat = true
      · rw [if_pos x] at h11
        refine gOk_chk (Or.inr h11) (gOk_some (cYes ?_ (h13.1.up npP_rb) h13.2))
        rw [if_pos x, h11]; rfl
      · rw [if_neg x] at h11
        refine gOk_chk (Or.inl h11) (gOk_some (cYes ?_ (h13.1.up npP_rb) h13.2))
        rw [if_neg x, h11]; rfl
theorem mX6_crash_ok (R : RB μ 0 S) (hnc : 0 < nc) : gOk (mX6_crash nc a1 μ) (cPost (rbP 0) μ [eIO, eIS] (zaCrash S a1.toInt)) := by
  unfold mX6_crash zaCrash
  refine gOk_rep (fun c => ?_) (fun n hn h1 he => gOk_chk (by omega) ?_)
  · rw [if_pos c]
    exact cNo R (by decide) rfl
  · rw [if_neg (show ¬ ¬ (0 ≤ a1.toInt ∧ a1.toInt < 5) from fun z => z (by omega)), he]
    have hb := R.2.1 n hn
    have r0 := hb.1.2.1
    by_cases hu : nup (zno S n) = true
    · rw [hu, if_pos rfl] at r0
      rw [if_neg (show ¬ nup (zno S n) = false from by rw [hu]; decide)]
      refine gOk_eq r0 (y := 0) (b := 0) rfl (fun z => absurd z (by decide)) (fun _ => ?_)
      refine gOk_bp (mX4_goDown_ok hb) (fun μ6 h6 => gOk_some (cYes ?_ (h6.1.up (bnP_rb hn)) (R.node hn h6.1 h6.2)))
      exact h6.2.1.2.2.1
    · rw [Bool.not_eq_true] at hu
      rw [hu, if_neg (by decide)] at r0
      rw [if_pos hu]
      refine gOk_eq r0 (y := 0) (b := 0) rfl (fun _ => gOk_some (cNo R (by decide) rfl)) (fun z => absurd rfl z)
theorem back_lg (N : sqN) (c : Nat) (x : Int32) : nlg (nTi (nCm (nUp N true) c) x) = nlg N := rfl
theorem zBack_lg (S : sqSt) (n : Nat) : nlg (zno (zBack S n) n) = nlg (zno S n) := by
  unfold zBack
  rw [zN_at]
  exact back_lg _ _ _
theorem mX6_restart_ok (R : RY B μ 0 S) (hnc : 0 < nc) : gOk (mX6_restart nc a1 μ) (cPost (rbP 0) μ [eIO, eIS] (zaBack S a1.toInt)) := by
  unfold mX6_restart zaBack
  refine gOk_rep (fun c => ?_) (fun n hn h1 he => gOk_chk (by omega) ?_)
  · rw [if_pos c]
    exact cNo R.1 (by decide) rfl
  · rw [if_neg (show ¬ ¬ (0 ≤ a1.toInt ∧ a1.toInt < 5) from fun z => z (by omega)), he]
    have hb := R.1.2.1 n hn
    have r0 := hb.1.2.1
    have hlen := R.len hn
    by_cases hu : nup (zno S n) = true
    · rw [hu, if_pos rfl] at r0
      rw [if_pos hu]
      refine gOk_eq r0 (y := 0) (b := 0) rfl (fun z => absurd z (by decide)) (fun _ => gOk_some (cNo R.1 (by decide) rfl))
    · have hu' := hu
      rw [Bool.not_eq_true] at hu'
      rw [hu', if_neg (by decide)] at r0
      rw [if_neg hu]
      refine gOk_eq r0 (y := 0) (b := 0) rfl (fun _ => ?_) (fun z => absurd rfl z)
      refine gOk_bp (mX0_revive_ok R.1 hn) (fun μ6 h6 => ?_)
      have b6 := h6.2.2.1 n hn
      have e6 := zBack_lg S n
      refine gOk_bp (mX1_lastIndex_ok b6.1.2.2.2.2.2.1 (by rw [e6]; omega)) (fun r8 h8 => gOk_some (cYes ?_ (h6.1.up (bnP_rb hn)) h6.2))
      rw [h8, e6]
theorem mX6_submit_ok (R : RY B μ 0 S) (hB : B + 1 < 900000000) (hnc : 0 < nc) : gOk (mX6_submit nc a1 a2 μ) (cPost (rbP 0) μ [eIO, eIS, eUO] (zaSub S a1.toInt a2)) := by
  unfold mX6_submit zaSub
  refine gOk_rep (fun c => ?_) (fun n hn h1 he => gOk_chk (by omega) ?_)
  · rw [if_pos c]
    exact cNo R.1 (by decide) rfl
  · rw [if_neg (show ¬ ¬ (0 ≤ a1.toInt ∧ a1.toInt < 5) from fun z => z (by omega)), he]
    have hb := R.1.2.1 n hn
    have htm := (R.2.1.2.2.2.2.1 n hn).1
    refine gOk_eq hb.2.1 (y := 2) (b := 2) rfl (fun z => ?_) (fun z => ?_)
    · have hr : nro (zno S n) = 2 := by omega
      rw [if_neg (show ¬ nro (zno S n) ≠ 2 from fun y => y hr)]
      refine gOk_bp (mX1_isFull_ok hb.1.2.2.2.2.2.1) (fun r6 h6 => ?_)
      by_cases w : (nlg (zno S n)).length < nbs (zno S n) + 24
      · rw [if_pos w] at h6
        rw [if_neg (show ¬ nbs (zno S n) + 24 ≤ (nlg (zno S n)).length by omega)]
        refine gOk_if (fun _ => ?_) (fun y => absurd h6 y)
        have hz : zIL (B + 1) (zAdd S n 0 a2) := R.2.1.add hn hr w (fun c hc => by cases hc) ⟨by show ntm (zno S n) ≤ B + 1; omega, by show 0 ≤ 3; decide, fun r => absurd r (by show ¬ 0 = 1; decide), fun r => absurd r (by show ¬ 0 = 2; decide)⟩
        exact gOk_bd (mX0_add_ok R hB hn hr w (k := 0) rfl hz) (fun r9 μ10 hp => gOk_some (cYes hp.1 (hp.2.1.up (bnP_rb hn)) hp.2.2))
      · rw [if_neg w] at h6
        rw [if_pos (show nbs (zno S n) + 24 ≤ (nlg (zno S n)).length by omega)]
        exact gOk_if (fun y => absurd (h6.symm.trans y) (by decide)) (fun _ => gOk_some (cNo R.1 (by decide) rfl))
    · rw [if_pos (show nro (zno S n) ≠ 2 by omega)]
      exact gOk_some (cNo R.1 (by decide) rfl)
theorem mX6_reconfigure_ok (R : RY B μ 0 S) (hB : B + 1 < 900000000) (hnc : 0 < nc) : gOk (mX6_reconfigure nc a1 a2 μ) (cPost (rbP 0) μ [eIO, eIA, eIS, eUO] (zaConf S a1.toInt a2.toInt)) := by
  unfold mX6_reconfigure zaConf
  refine gOk_rep (fun c => ?_) (fun n hn h1 he => gOk_chk (by omega) ?_)
  · rw [if_pos c]
    exact cNo R.1 (by decide) rfl
  · rw [if_neg (show ¬ ¬ (0 ≤ a1.toInt ∧ a1.toInt < 5) from fun z => z (by omega)), he]
    have hb := R.1.2.1 n hn
    have htm := (R.2.1.2.2.2.2.1 n hn).1
    have hG := R.G hn
    have hbs : nbs (zno S n) ≤ ncm (zno S n) := by
      obtain ⟨⟨hh, I0⟩, L⟩ := R.2.1
      exact (zCmx_bd I0 hn).2.2.2
    have hzc : zc S (zno S n) = sqF (zg S) (nlg (zno S n)) := rfl
    refine gOk_bp (mX6_isGroup_ok μ a2) (fun r5 h5 => gOk_t01 h5 (fun z => ?_) (fun z => ?_))
    · rw [if_pos z]
      exact gOk_some (cNo R.1 (by decide) rfl)
    · rw [if_neg (show ¬ ¬ (1 ≤ a2.toInt ∧ a2.toInt ≤ 31) from fun y => y z)]
      refine gOk_eq hb.2.1 (y := 2) (b := 2) rfl (fun w => ?_) (fun w => ?_)
      · have hr : nro (zno S n) = 2 := by omega
        refine gOk_bp (mX1_isJoint_ok hb.1.2.2.2.2.2.2) (fun r9 h9 => gOk_jq (γ := Unit) (fun _ => ¬ ((zc S (zno S n)).1 = 0 ∧ sqCI (nlg (zno S n)) ≤ ncm (zno S n))) (fun _ hc => ?_) (fun j10 hj10 => ?_))
        · rw [if_pos (show ¬ (nro (zno S n) = 2 ∧ (zc S (zno S n)).1 = 0 ∧ sqCI (nlg (zno S n)) ≤ ncm (zno S n)) from fun y => hc y.2)]
          exact gOk_some (cNo R.1 (by decide) rfl)
        · by_cases x : (zc S (zno S n)).1 = 0
          · rw [if_pos (by rw [← hzc]; exact x)] at h9
            refine gOk_if (fun _ => ?_) (fun y => absurd h9 y)
            refine gOk_bp (mX4_isConfigurationCommitted_ok hb.1 hbs) (fun r14 h14 => gOk_t01 h14 (fun y => hj10 () (fun v => y v.2)) (fun y => ?_))
            rw [if_neg (show ¬ ¬ (nro (zno S n) = 2 ∧ (zc S (zno S n)).1 = 0 ∧ sqCI (nlg (zno S n)) ≤ ncm (zno S n)) from fun v => v ⟨hr, x, y⟩)]
            refine gOk_bp (mX1_isFull_ok hb.1.2.2.2.2.2.1) (fun r17 h17 => ?_)
            by_cases v : (nlg (zno S n)).length < nbs (zno S n) + 24
            · rw [if_pos v] at h17
              rw [if_neg (show ¬ nbs (zno S n) + 24 ≤ (nlg (zno S n)).length by omega)]
              refine gOk_if (fun _ => ?_) (fun u => absurd h17 u)
              have e11 : (μ 12 (5 * 0 + n) 11).toInt = ((zc S (zno S n)).2 : Int) := hb.1.2.2.2.2.2.2.2.2
              have hw : (zc S (zno S n)).2 < 32 := hG.2.2
              have ev : (32 * (μ 12 (5 * 0 + n) 11)) + a2 = Int32.ofNat (32 * (zc S (zno S n)).2 + a2.toInt.toNat) := ti_of (by rw [ti_add (ti_mul (x := 32) (a := 32) rfl e11 (by omega) (by omega)) (y := a2) rfl (by omega) (by omega)]; omega)
              rw [ev]
              have hj : sqC (ntm (zno S n), 1, Int32.ofNat (32 * (zc S (zno S n)).2 + a2.toInt.toNat)) = some ((zc S (zno S n)).2, a2.toInt.toNat) := sqC_joint hw (by omega)
              have hG2 : 0 < (zc S (zno S n)).2 := hG.2.1
              have hz : zIL (B + 1) (zAdd S n 1 (Int32.ofNat (32 * (zc S (zno S n)).2 + a2.toInt.toNat))) := R.2.1.add hn hr v (fun c hc => by
                rw [hj] at hc
                cases Option.some.inj hc
                refine ⟨⟨hw, by show 0 < a2.toInt.toNat; omega, by show a2.toInt.toNat < 32; omega⟩, ?_, y⟩
                exact Or.inl ⟨x, rfl, by show (zc S (zno S n)).2 ≠ 0; omega⟩) ⟨by show ntm (zno S n) ≤ B + 1; omega, by show 1 ≤ 3; decide, fun _ => ⟨_, rfl, by omega⟩, fun r => absurd r (by show ¬ 1 = 2; decide)⟩
              exact gOk_bd (mX0_add_ok R hB hn hr v (k := 1) rfl hz) (fun r9 μ10 hp => gOk_some (cYes hp.1 (hp.2.1.up (bnP_rb hn)) hp.2.2))
            · rw [if_neg v] at h17
              rw [if_pos (show nbs (zno S n) + 24 ≤ (nlg (zno S n)).length by omega)]
              exact gOk_if (fun u => absurd (h17.symm.trans u) (by decide)) (fun _ => gOk_some (cNo R.1 (by decide) rfl))
          · rw [if_neg (by rw [← hzc]; exact x)] at h9
            exact gOk_if (fun y => absurd (h9.symm.trans y) (by decide)) (fun _ => hj10 () (fun v => x v.1))
      · rw [if_pos (show ¬ (nro (zno S n) = 2 ∧ (zc S (zno S n)).1 = 0 ∧ sqCI (nlg (zno S n)) ≤ ncm (zno S n)) from fun y => w (by omega))]
        exact gOk_some (cNo R.1 (by decide) rfl)
theorem mX6_pack_ok (R : RY B μ 0 S) (hnc : 0 < nc) : gOk (mX6_pack nc a1 μ) (cPost (rbP 0) μ [eIO, eIS] (zaPack S a1.toInt)) := by
  unfold mX6_pack zaPack
  refine gOk_rep (fun c => ?_) (fun n hn h1 he => gOk_chk (by omega) ?_)
  · rw [if_pos c]
    exact cNo R.1 (by decide) rfl
  · rw [if_neg (show ¬ ¬ (0 ≤ a1.toInt ∧ a1.toInt < 5) from fun z => z (by omega)), he]
    have hb := R.1.2.1 n hn
    have r0 := hb.1.2.1
    have hlen := R.len hn
    have hbd : nbs (zno S n) ≤ ncm (zno S n) ∧ ncm (zno S n) ≤ (nlg (zno S n)).length := by
      obtain ⟨⟨hh, I0⟩, L⟩ := R.2.1
      exact ⟨(zCmx_bd I0 hn).2.2.2, (zCmx_bd I0 hn).1⟩
    have hLL := (R.2.1.2.2.2.2.1 n hn).2.2.1
    by_cases hu : nup (zno S n) = true
    · rw [hu, if_pos rfl] at r0
      rw [if_neg (show ¬ nup (zno S n) = false from by rw [hu]; decide)]
      refine gOk_eq r0 (y := 0) (b := 0) rfl (fun z => absurd z (by decide)) (fun _ => ?_)
      refine gOk_bd (mX1_packTo_ok hb.1.2.2.2.2.2.1 hLL hlen hb.1.2.2.2.2.1 (by omega)) (fun r6 μ7 hp => gOk_some ?_)
      by_cases w : nbs (zno S n) < ncm (zno S n)
      · obtain ⟨p1, p2, p3, p4⟩ := hp.2 ⟨w, hbd.2⟩
        have p1 : r6.toInt = (ncm (zno S n) : Int) - nbs (zno S n) := p1
        have p2 : gFr (clP (5 * 0 + n)) μ μ7 := p2
        refine cYes (by rw [p1]; omega) ((p2.up clP_bn).up (bnP_rb hn)) ?_
        exact R.1.node hn (p2.up clP_bn) (hb.lb p2 p3 p4)
      · have p := hp.1 (fun y => w y.1)
        have p1 : r6 = 0 := congrArg Prod.fst p
        have p2 : μ7 = μ := congrArg Prod.snd p
        rw [p1, p2]
        refine cYes (by show (0 : Int) = _; omega) gFr.rf ?_
        have e1 : nBs (zno S n) (ncm (zno S n)) = zno S n := by
          have : ncm (zno S n) = nbs (zno S n) := by omega
          rw [this]; rfl
        unfold zPack
        rw [e1, zN_id]
        exact R.1
    · rw [Bool.not_eq_true] at hu
      rw [hu, if_neg (by decide)] at r0
      rw [if_pos hu]
      exact gOk_eq r0 (y := 0) (b := 0) rfl (fun _ => gOk_some (cNo R.1 (by decide) rfl)) (fun z => absurd rfl z)
theorem mX6_read_ok (R : RY B μ 0 S) (hnc : 0 < nc) : gOk (mX6_read nc a1 μ) (cAns μ [eIO, eIS, eUO] (zaRead S a1.toInt)) := by
  unfold mX6_read zaRead
  refine gOk_rep (fun c => ?_) (fun n hn h1 he => gOk_chk (by omega) ?_)
  · rw [if_pos c]
    exact aNo (by decide) rfl
  · rw [if_neg (show ¬ ¬ (0 ≤ a1.toInt ∧ a1.toInt < 5) from fun z => z (by omega)), he]
    have hb := R.1.2.1 n hn
    have hlen := R.len hn
    have hbd : nbs (zno S n) ≤ ncm (zno S n) ∧ ncm (zno S n) ≤ (nlg (zno S n)).length := by
      obtain ⟨⟨hh, I0⟩, L⟩ := R.2.1
      exact ⟨(zCmx_bd I0 hn).2.2.2, (zCmx_bd I0 hn).1⟩
    refine gOk_eq hb.2.1 (y := 2) (b := 2) rfl (fun z => ?_) (fun z => ?_)
    · have hr : nro (zno S n) = 2 := by omega
      rw [if_neg (show ¬ nro (zno S n) ≠ 2 from fun y => y hr)]
      refine gOk_bp (mX4_canAnswerReads_ok R hn hr R.1.2.2.2.1) (fun r6 h6 => gOk_t01 h6 (fun y => ?_) (fun y => ?_))
      · rw [if_neg y]
        exact gOk_some (aNo (by decide) rfl)
      · rw [if_pos y]
        refine gOk_bp (mX1_resultAt_ok hb.1.2.2.2.2.2.1 hlen hb.1.2.2.2.2.1 hbd.1 hbd.2) (fun r9 h9 => gOk_some (aYes ?_))
        rw [h9]
    · rw [if_pos (show nro (zno S n) ≠ 2 by omega)]
      exact gOk_some (aNo (by decide) rfl)
end SqCa1
