/-! The class's calls: questions. -/
/-- who has won in a term is a node, or none -/
def zWq (S : sqSt) : Prop := ∀ t, zwi S t = -1 ∨ 0 ≤ (zwi S t).toInt
section SqCa2
variable {μ μ' μ1 : gM} {n g b k i nc B t t1 s q kk q0 k0 : Nat} {l : List sqE} {a1 a2 a3 a4 : Int32} {e : sqE} {m : sqMs} {S S' : sqSt} {N : sqN} {h : sqH} {P : Nat → Nat → Nat → Prop} {ls : List String} {ex : String}
theorem RY.bd (R : RY B μ q S) (hn : n < 5) : nbs (zno S n) ≤ ncm (zno S n) ∧ ncm (zno S n) ≤ (nlg (zno S n)).length ∧ (nlg (zno S n)).length ≤ nbs (zno S n) + 24 := by
  obtain ⟨⟨hh, I0⟩, L⟩ := R.2.1
  have := zCmx_bd I0 hn
  exact ⟨this.2.2.2, this.1, this.2.2.1⟩
theorem mX6_node_in (R : RY B μ 0 S) (hn : n < 5) {w : Nat} (hw : w ≤ 13) (h2 : a2.toInt = (w : Int)) : gOk (
      if a2 = 0 then
        if (μ 11 (5 * 0 + n) 5) = 0 then
          some ((.inr 0) : Sum (String × gM) Int32)
        else
          some (.inr 1)
      else if a2 = 1 then
        some (.inr (μ 11 (5 * 0 + n) 6))
      else if a2 = 2 then
        some (.inr (μ 11 (5 * 0 + n) 7))
      else if a2 = 3 then
        some (.inr (μ 11 (5 * 0 + n) 8))
      else if a2 = 4 then
        some (.inr (μ 11 (5 * 0 + n) 9))
      else if a2 = 5 then
        gBp (mX1_lastIndex nc (5 * 0 + n) μ) fun r16 =>
        some (.inr r16)
      else if a2 = 6 then
        gBp (mX1_lastTerm nc (5 * 0 + n) μ) fun r19 =>
        some (.inr r19)
      else if a2 = 7 then
        some (.inr (μ 12 (5 * 0 + n) 4))
      else if a2 = 8 then
        gBp (mX1_resultAt nc (5 * 0 + n) (μ 11 (5 * 0 + n) 9) μ) fun r23 =>
        some (.inr r23)
      else if a2 = 9 then
        some (.inr (μ 11 (5 * 0 + n) 10))
      else if a2 = 10 then
        some (.inr (μ 12 (5 * 0 + n) 10))
      else if a2 = 11 then
        some (.inr (μ 12 (5 * 0 + n) 11))
      else if a2 = 12 then
        gBp (mX4_lease nc (5 * 0 + n) (μ 6 0 4) μ) fun r29 =>
        some (.inr r29)
      else 
        gLet (α := Int32) (if (μ 11 (5 * 0 + n) 6) = 1 then μ 11 (5 * 0 + n) 11 else 0) fun x30 =>
        some (.inr x30)) (fun q => ∃ v, q = .inr v ∧ v.toInt = zNode S n w) := by
  have hb := R.1.2.1 n hn
  have hlen := R.len hn
  have hbd := R.bd hn
  obtain ⟨⟨h0, h5, h7, h8, h9, hl, hf⟩, h6, h10, h11, h13⟩ := hb
  unfold zNode
  refine gOk_eq h2 (y := 0) (b := 0) rfl (fun z => ?_) (fun z => ?_)
  · rw [if_pos (show w = 0 by omega)]
    by_cases hu : nup (zno S n) = true
    · rw [hu, if_pos rfl] at h5
      rw [if_pos hu]
      exact gOk_eq h5 (y := 0) (b := 0) rfl (fun y => absurd y (by decide)) (fun _ => gOk_some ⟨_, rfl, rfl⟩)
    · rw [if_neg hu] at h5
      rw [if_neg hu]
      exact gOk_eq h5 (y := 0) (b := 0) rfl (fun _ => gOk_some ⟨_, rfl, rfl⟩) (fun y => absurd rfl y)
  · rw [if_neg (show ¬ w = 0 by omega)]
    refine gOk_eq h2 (y := 1) (b := 1) rfl (fun z => ?_) (fun z => ?_)
    · rw [if_pos (show w = 1 by omega)]; exact gOk_some ⟨_, rfl, h6⟩
    · rw [if_neg (show ¬ w = 1 by omega)]
      refine gOk_eq h2 (y := 2) (b := 2) rfl (fun z => ?_) (fun z => ?_)
      · rw [if_pos (show w = 2 by omega)]; exact gOk_some ⟨_, rfl, h7⟩
      · rw [if_neg (show ¬ w = 2 by omega)]
        refine gOk_eq h2 (y := 3) (b := 3) rfl (fun z => ?_) (fun z => ?_)
        · rw [if_pos (show w = 3 by omega)]; exact gOk_some ⟨_, rfl, h8⟩
        · rw [if_neg (show ¬ w = 3 by omega)]
          refine gOk_eq h2 (y := 4) (b := 4) rfl (fun z => ?_) (fun z => ?_)
          · rw [if_pos (show w = 4 by omega)]; exact gOk_some ⟨_, rfl, h9⟩
          · rw [if_neg (show ¬ w = 4 by omega)]
            refine gOk_eq h2 (y := 5) (b := 5) rfl (fun z => ?_) (fun z => ?_)
            · rw [if_pos (show w = 5 by omega)]
              exact gOk_bp (mX1_lastIndex_ok hl (by omega)) (fun r hr => gOk_some ⟨_, rfl, hr⟩)
            · rw [if_neg (show ¬ w = 5 by omega)]
              refine gOk_eq h2 (y := 6) (b := 6) rfl (fun z => ?_) (fun z => ?_)
              · rw [if_pos (show w = 6 by omega)]
                exact gOk_bp (mX1_lastTerm_ok hl) (fun r hr => gOk_some ⟨_, rfl, hr⟩)
              · rw [if_neg (show ¬ w = 6 by omega)]
                refine gOk_eq h2 (y := 7) (b := 7) rfl (fun z => ?_) (fun z => ?_)
                · rw [if_pos (show w = 7 by omega)]; exact gOk_some ⟨_, rfl, hl.2.2.2.1⟩
                · rw [if_neg (show ¬ w = 7 by omega)]
                  refine gOk_eq h2 (y := 8) (b := 8) rfl (fun z => ?_) (fun z => ?_)
                  · rw [if_pos (show w = 8 by omega)]
                    exact gOk_bp (mX1_resultAt_ok hl hlen h9 hbd.1 hbd.2.1) (fun r hr => gOk_some ⟨_, rfl, by rw [hr]⟩)
                  · rw [if_neg (show ¬ w = 8 by omega)]
                    refine gOk_eq h2 (y := 9) (b := 9) rfl (fun z => ?_) (fun z => ?_)
                    · rw [if_pos (show w = 9 by omega)]; exact gOk_some ⟨_, rfl, by rw [h10]⟩
                    · rw [if_neg (show ¬ w = 9 by omega)]
                      refine gOk_eq h2 (y := 10) (b := 10) rfl (fun z => ?_) (fun z => ?_)
                      · rw [if_pos (show w = 10 by omega)]; exact gOk_some ⟨_, rfl, hf.2.1⟩
                      · rw [if_neg (show ¬ w = 10 by omega)]
                        refine gOk_eq h2 (y := 11) (b := 11) rfl (fun z => ?_) (fun z => ?_)
                        · rw [if_pos (show w = 11 by omega)]; exact gOk_some ⟨_, rfl, hf.2.2⟩
                        · rw [if_neg (show ¬ w = 11 by omega)]
                          refine gOk_eq h2 (y := 12) (b := 12) rfl (fun z => ?_) (fun z => ?_)
                          · rw [if_pos (show w = 12 by omega)]
                            exact gOk_bp (mX4_lease_ok R hn R.1.2.2.2.1) (fun r hr => gOk_some ⟨_, rfl, hr⟩)
                          · rw [if_neg (show ¬ w = 12 by omega)]
                            refine gOk_lee (fun x30 h30 => gOk_some ⟨_, rfl, ?_⟩)
                            rw [h30]
                            by_cases y : nro (zno S n) = 1
                            · rw [if_pos (show (μ 11 (5 * 0 + n) 6) = 1 from ti_eq h6 (by rw [y]; rfl)), if_pos y]
                              exact h11 y
                            · rw [if_neg (fun v => y (by rw [v] at h6; have : (1 : Int32).toInt = 1 := rfl; omega)), if_neg y]
                              rfl
theorem mX6_node_ok (R : RY B μ 0 S) (hnc : 0 < nc) : gOk (mX6_node nc a1 a2 μ) (cAns μ [eIO, eIA] (zaNode S a1.toInt a2.toInt)) := by
  unfold mX6_node zaNode
  refine gOk_rep (fun c => ?_) (fun n hn h1 he => gOk_chk (by omega) ?_)
  · rw [if_pos c]
    exact aNo (by decide) rfl
  · rw [if_neg (show ¬ ¬ (0 ≤ a1.toInt ∧ a1.toInt < 5) from fun z => z (by omega)), he]
    refine gOk_jq (γ := Unit) (fun _ => ¬ (0 ≤ a2.toInt ∧ a2.toInt ≤ 13)) (fun _ hc => ?_) (fun j4 hj4 => ?_)
    · rw [if_pos hc]
      exact gOk_some (aNo (by decide) rfl)
    · refine gOk_lt (x := a2) rfl (y := 0) (b := 0) rfl (fun z => hj4 () (by omega)) (fun z => gOk_le (x := a2) rfl (y := 13) (b := 13) rfl (fun w => ?_) (fun w => hj4 () (by omega)))
      rw [if_neg (show ¬ ¬ (0 ≤ a2.toInt ∧ a2.toInt ≤ 13) from fun y => y ⟨z, w⟩)]
      refine gOk_imp (mX6_node_in R hn (w := a2.toInt.toNat) (by omega) (by omega)) (fun q hq => ?_)
      obtain ⟨v, rfl, hv⟩ := hq
      exact aYes hv
theorem mX6_noted_ok (R : RY B μ 0 S) (hnc : 0 < nc) : gOk (mX6_noted nc a1 a2 a3 μ) (cAns μ [eIO, eIA, eIS] (zaNoted S a1.toInt a2.toInt a3.toInt)) := by
  unfold mX6_noted zaNoted
  refine gOk_rep (fun c => ?_) (fun n hn h1 he => gOk_chk (by omega) ?_)
  · rw [if_pos (show ¬ ((0 ≤ a1.toInt ∧ a1.toInt < 5) ∧ (0 ≤ a2.toInt ∧ a2.toInt < 5)) from fun z => c z.1)]
    exact aNo (by decide) rfl
  · have hb := R.1.2.1 n hn
    refine gOk_bp (mX6_isNode_ok2 μ a2) (fun r5 h5 => gOk_t01 h5 (fun z => ?_) (fun z => ?_))
    · rw [if_pos (show ¬ ((0 ≤ a1.toInt ∧ a1.toInt < 5) ∧ (0 ≤ a2.toInt ∧ a2.toInt < 5)) from fun y => z y.2)]
      exact gOk_some (aNo (by decide) rfl)
    · rw [if_neg (show ¬ ¬ ((0 ≤ a1.toInt ∧ a1.toInt < 5) ∧ (0 ≤ a2.toInt ∧ a2.toInt < 5)) from fun y => y ⟨by omega, z⟩), he]
      refine gOk_jq (γ := Unit) (fun _ => a1.toInt = a2.toInt ∨ ¬ (0 ≤ a3.toInt ∧ a3.toInt ≤ 2)) (fun _ hc => ?_) (fun j7 hj7 => ?_)
      · rw [if_pos hc]
        exact gOk_some (aNo (by decide) rfl)
      · refine gOk_eq (x := a1) rfl (y := a2) rfl (fun w => hj7 () (Or.inl w)) (fun w => ?_)
        refine gOk_lt (x := a3) rfl (y := 0) (b := 0) rfl (fun y => hj7 () (Or.inr (by omega))) (fun y => gOk_le (x := a3) rfl (y := 2) (b := 2) rfl (fun v => ?_) (fun v => hj7 () (Or.inr (by omega))))
        rw [if_neg (show ¬ (a1.toInt = a2.toInt ∨ ¬ (0 ≤ a3.toInt ∧ a3.toInt ≤ 2)) from fun u => u.elim w (fun u => u ⟨y, v⟩))]
        refine gOk_eq hb.2.1 (y := 2) (b := 2) rfl (fun u => ?_) (fun u => ?_)
        · have hr : nro (zno S n) = 2 := by omega
          rw [if_neg (show ¬ nro (zno S n) ≠ 2 from fun p => p hr)]
          have e2 : a2.toInt = ((a2.toInt.toNat : Nat) : Int) := by omega
          have p2 := ti_inb (n := 5) e2 (by omega)
          obtain ⟨u1, u2, u3⟩ := hb.2.2.2.2 hr a2.toInt.toNat (by omega)
          simp only [ti_cl e2]
          refine gOk_eq (x := a3) rfl (y := 0) (b := 0) rfl (fun p => gOk_chk p2 (gOk_some (aYes ?_))) (fun p => gOk_eq (x := a3) rfl (y := 1) (b := 1) rfl (fun p2' => gOk_chk p2 (gOk_some (aYes ?_))) (fun p2' => gOk_chk p2 (gOk_some (aYes ?_))))
          · rw [if_pos p]; exact u1
          · rw [if_neg p, if_pos p2']; exact u2
          · rw [if_neg p, if_neg p2']; exact u3
        · rw [if_pos (show nro (zno S n) ≠ 2 by omega)]
          exact gOk_some (aNo (by decide) rfl)
theorem CL.part (h : CL μ n g l b) (hB : l.length < 900000000) {f ix : Nat} (h1 : a1.toInt = (ix : Int)) (hb : b < ix) (hl : ix ≤ l.length) : gOk (mX1_partAt nc n f n a1 a2 μ) (fun r => r = μ f n (ix - 1 - b)) := gOk_imp (mX1_partAt_ok h (by omega) h1 (by omega)) (fun r hr => hr.1 ⟨hb, hl⟩)
theorem mX6_entry_ok (R : RY B μ 0 S) (hnc : 0 < nc) : gOk (mX6_entry nc a1 a2 a3 μ) (cAns μ [eIO, eIA] (zaEnt S a1.toInt a2.toInt a3.toInt)) := by
  unfold mX6_entry zaEnt
  refine gOk_rep (fun c => ?_) (fun n hn h1 he => gOk_chk (by omega) ?_)
  · rw [if_neg (fun z => c z.1)]
    exact aNo (by decide) rfl
  · rw [he]
    have hb := R.1.2.1 n hn
    have hlen := R.len hn
    have hcl := hb.1.2.2.2.2.2.1
    refine gOk_bp (mX1_has_ok hcl (by omega) (a1 := a2) rfl) (fun r5 h5 => gOk_t01 h5 (fun z => ?_) (fun z => ?_))
    · rw [if_neg (fun y => z (by omega))]
      exact gOk_some (aNo (by decide) rfl)
    · rw [if_pos (show (0 ≤ a1.toInt ∧ a1.toInt < 5) ∧ (nbs (zno S n) : Int) + 1 ≤ a2.toInt ∧ a2.toInt ≤ (nlg (zno S n)).length by omega)]
      refine gOk_jq (γ := Unit) (fun _ => ¬ (0 ≤ a3.toInt ∧ a3.toInt ≤ 2)) (fun _ hc => ?_) (fun j7 hj7 => ?_)
      · rw [if_neg hc]
        exact gOk_some (aNo (by decide) rfl)
      · refine gOk_lt (x := a3) rfl (y := 0) (b := 0) rfl (fun y => hj7 () (by omega)) (fun y => gOk_le (x := a3) rfl (y := 2) (b := 2) rfl (fun v => ?_) (fun v => hj7 () (by omega)))
        rw [if_pos (show 0 ≤ a3.toInt ∧ a3.toInt ≤ 2 from ⟨y, v⟩)]
        have e2 : a2.toInt = ((a2.toInt.toNat : Nat) : Int) := by omega
        have hlt : (a2.toInt - 1).toNat < (nlg (zno S n)).length := by omega
        have hg := List.getElem?_eq_getElem hlt
        have hat := hcl.at hg (by omega)
        rw [hg]
        generalize (nlg (zno S n))[(a2.toInt - 1).toNat] = e at *
        have ei : a2.toInt.toNat - 1 - nbs (zno S n) = (a2.toInt - 1).toNat - nbs (zno S n) := by omega
        have part := fun f x => hcl.part (nc := nc) (f := f) (a2 := x) (by omega) e2 (by omega) (by omega)
        rw [ei] at part
        show gOk _ (cAns μ [eIO, eIA] (0, zEnt e a3.toInt.toNat, S))
        unfold zEnt
        refine gOk_eq (x := a3) rfl (y := 0) (b := 0) rfl (fun p => ?_) (fun p => gOk_eq (x := a3) rfl (y := 1) (b := 1) rfl (fun p2 => ?_) (fun p2 => ?_))
        · rw [if_pos (show a3.toInt.toNat = 0 by omega)]
          unfold mX1_termAt
          refine gOk_bp (gOk_bp (part 16 _) (fun r hr => gOk_some (show r.toInt = (sqT e : Int) by rw [hr]; exact hat.1))) (fun r hr => gOk_some (aYes hr))
        · rw [if_neg (show ¬ a3.toInt.toNat = 0 by omega), if_pos (show a3.toInt.toNat = 1 by omega)]
          unfold mX1_kindAt
          refine gOk_bp (gOk_bp (part 17 _) (fun r hr => gOk_some (show r.toInt = (e.2.1 : Int) by rw [hr]; exact hat.2.1))) (fun r hr => gOk_some (aYes hr))
        · rw [if_neg (show ¬ a3.toInt.toNat = 0 by omega), if_neg (show ¬ a3.toInt.toNat = 1 by omega)]
          unfold mX1_valueAt
          refine gOk_bp (gOk_bp (part 18 _) (fun r hr => gOk_some (show r = e.2.2 by rw [hr]; exact hat.2.2))) (fun r hr => gOk_some (aYes (by rw [hr])))
theorem mX6_messages_ok (R : RB μ 0 S) : gOk (mX6_messages nc μ) (fun r => r.toInt = ((zms S).length : Int)) := by
  unfold mX6_messages
  exact gOk_some R.1.2.1
theorem mX2_detail_ok2 (h : BM μ t g m) (hk : mki m ≤ 4) : gOk (mX2_detail nc t μ) (fun r => r.toInt = (mfl m : Int)) := by
  by_cases z : mki m = 2
  · unfold mX2_detail
    refine gOk_eq h.1 (y := 1) (b := 1) rfl (fun y => absurd y (by omega)) (fun _ => gOk_eq h.1 (y := 2) (b := 2) rfl (fun _ => gOk_some ?_) (fun y => absurd y (by omega)))
    exact (h.2.2.2.2.2.2.2.2.2.2.1 z).2.2.1
  · exact gOk_imp (mX2_detail_ok h hk) (fun r hr => hr z)
theorem mX6_message_ok (R : RY B μ 0 S) (hnc : 0 < nc) : gOk (mX6_message nc a1 a2 μ) (cAns μ [eIO, eIA] (zaMsg S a1.toInt a2.toInt)) := by
  unfold mX6_message zaMsg
  refine gOk_bp (mX3_has_ok R.1.1 (a1 := a1) rfl) (fun r2 h2 => gOk_t01 h2 (fun z => ?_) (fun z => ?_))
  · rw [if_neg z]
    exact gOk_some (aNo (by decide) rfl)
  · rw [if_pos z]
    refine gOk_jq (γ := Unit) (fun _ => ¬ (0 ≤ a2.toInt ∧ a2.toInt ≤ 6)) (fun _ hc => ?_) (fun j4 hj4 => ?_)
    · rw [if_neg hc]
      exact gOk_some (aNo (by decide) rfl)
    · refine gOk_lt (x := a2) rfl (y := 0) (b := 0) rfl (fun y => hj4 () (by omega)) (fun y => gOk_le (x := a2) rfl (y := 6) (b := 6) rfl (fun v => ?_) (fun v => hj4 () (by omega)))
      rw [if_pos (show 0 ≤ a2.toInt ∧ a2.toInt ≤ 6 from ⟨y, v⟩)]
      have hc40 := R.1.1.2.2.1
      have e1 : a1.toInt = ((a1.toInt.toNat : Nat) : Int) := by omega
      have hlt : a1.toInt.toNat < (zms S).length := by omega
      have hg := List.getElem?_eq_getElem hlt
      have bm := R.1.1.2.2.2.2.2.2.2 _ _ hg
      have hk4 : mki (zms S)[a1.toInt.toNat] ≤ 4 := by
        obtain ⟨⟨hh, I0⟩, L⟩ := R.2.1
        exact (I0.2.2.2 _ (List.getElem_mem hlt)).1.2.2
      have p1 := ti_inb (n := 40) e1 (by omega)
      have nn := R.1.1.num (nc := nc) hnc (i := a1.toInt.toNat) (by omega)
      rw [hg]
      generalize (zms S)[a1.toInt.toNat] = m at *
      simp only [ti_cl e1]
      rw [← nwP_lt (μ := μ) (q := 0) (by omega)]
      generalize nwP μ 0 a1.toInt.toNat = t at *
      refine gOk_chk p1 (gOk_let (gOk_chk nn ?_))
      show gOk _ (cAns μ [eIO, eIA] (0, (zPart m a2.toInt.toNat : Int), S))
      unfold zPart
      refine gOk_eq (x := a2) rfl (y := 0) (b := 0) rfl (fun p => ?_) (fun p => ?_)
      · rw [if_pos (show a2.toInt.toNat = 0 by omega)]; exact gOk_some (aYes bm.1)
      · rw [if_neg (show ¬ a2.toInt.toNat = 0 by omega)]
        refine gOk_eq (x := a2) rfl (y := 1) (b := 1) rfl (fun p => ?_) (fun p => ?_)
        · rw [if_pos (show a2.toInt.toNat = 1 by omega)]; exact gOk_some (aYes bm.2.1)
        · rw [if_neg (show ¬ a2.toInt.toNat = 1 by omega)]
          refine gOk_eq (x := a2) rfl (y := 2) (b := 2) rfl (fun p => ?_) (fun p => ?_)
          · rw [if_pos (show a2.toInt.toNat = 2 by omega)]; exact gOk_some (aYes bm.2.2.1)
          · rw [if_neg (show ¬ a2.toInt.toNat = 2 by omega)]
            refine gOk_eq (x := a2) rfl (y := 3) (b := 3) rfl (fun p => ?_) (fun p => ?_)
            · rw [if_pos (show a2.toInt.toNat = 3 by omega)]; exact gOk_some (aYes bm.2.2.2.1)
            · rw [if_neg (show ¬ a2.toInt.toNat = 3 by omega)]
              refine gOk_eq (x := a2) rfl (y := 4) (b := 4) rfl (fun p => ?_) (fun p => ?_)
              · rw [if_pos (show a2.toInt.toNat = 4 by omega)]; exact gOk_some (aYes bm.2.2.2.2.1)
              · rw [if_neg (show ¬ a2.toInt.toNat = 4 by omega)]
                refine gOk_eq (x := a2) rfl (y := 5) (b := 5) rfl (fun p => ?_) (fun p => ?_)
                · rw [if_pos (show a2.toInt.toNat = 5 by omega)]; exact gOk_some (aYes bm.2.2.2.2.2.2.1)
                · rw [if_neg (show ¬ a2.toInt.toNat = 5 by omega)]
                  exact gOk_bp (mX2_detail_ok2 bm hk4) (fun r hr => gOk_some (aYes hr))
theorem mX6_lose_ok (R : RB μ 0 S) (hnc : 0 < nc ∧ nc ≤ 2) : gOk (mX6_lose nc a1 μ) (cPost (rbP 0) μ [eIO] (zaLose S a1.toInt)) := by
  unfold mX6_lose zaLose
  refine gOk_bp (mX3_has_ok R.1 (a1 := a1) rfl) (fun r2 h2 => gOk_t01 h2 (fun z => ?_) (fun z => ?_))
  · rw [if_neg z]
    exact gOk_some (cNo R (by decide) rfl)
  · rw [if_pos z]
    have e1 : a1.toInt = ((a1.toInt.toNat : Nat) : Int) := by omega
    have hlt : a1.toInt.toNat < (zms S).length := by omega
    refine gOk_bp (mX3_remove_ok R.1 hnc.1 hnc.2 e1 (List.getElem?_eq_getElem hlt)) (fun μ5 h5 => ?_)
    obtain ⟨F5, W5, -⟩ := h5
    have R5 : RB μ5 0 (zDel S a1.toInt.toNat) := R.net W5 (fun f i j z => F5 f i j (fun y => by have := y.2; omega))
    have W6 := W5.st (c := 2) (Or.inr rfl) 1
    refine gOk_lee (fun μ6 h6 => gOk_some ?_)
    have h6' : μ6 = w3 μ5 9 0 (5 + 2) (μ5 9 0 (5 + 2) + 1) := h6
    rw [← h6'] at W6
    have o6 : ∀ f i j, f ≤ 8 ∨ 11 ≤ f ∧ f ≤ 18 → μ6 f i j = μ5 f i j := fun f i j z => by rw [h6', w3_o _ _ (by omega)]
    refine cYes ?_ ((F5.up npP_rb).tr (by rw [h6]; exact (gFr.w (P := npP 0) ⟨rfl, by omega⟩).up npP_rb)) (R5.net W6 o6 rfl rfl rfl (fun c hc => sqU1_ne (by omega)) rfl rfl)
    rw [W6.2.1]
    show (((zms S).eraseIdx a1.toInt.toNat).length : Int) = _
    rw [List.length_eraseIdx_of_lt hlt]
theorem zLead5_rg (S : sqSt) : ∀ j, zLead5 S j = -1 ∨ (0 ≤ zLead5 S j ∧ zLead5 S j < j) := by
  intro j
  induction j with
  | zero => exact Or.inl rfl
  | succ j ih =>
    unfold zLead5
    by_cases c : (nup (zno S j) = true ∧ nro (zno S j) = 2) ∧ (zLead5 S j < 0 ∨ ntm (zno S (zLead5 S j).toNat) < ntm (zno S j))
    · rw [if_pos c]; exact Or.inr ⟨by omega, by omega⟩
    · rw [if_neg c]
      rcases ih with z | z
      · exact Or.inl z
      · exact Or.inr ⟨z.1, by omega⟩
theorem mX6_leader_ok (R : RB μ 0 S) : gOk (mX6_leader nc μ) (cAns μ [eNS] (zaLeader S)) := by
  unfold mX6_leader zaLeader
  refine gOk_jq (γ := Int32) (fun x => x.toInt = zLead5 S 5) (fun x1 hx => ?_) (fun j2 hj2 => ?_)
  · have hz := zLead5_rg S 5
    refine gOk_eq hx ti_m1 (fun z => ?_) (fun z => ?_)
    · rw [if_pos (by omega)]
      exact gOk_some (aNo (by decide) rfl)
    · rw [if_neg (by omega)]
      exact gOk_some (aYes hx)
  · refine gOk_fx3 (fun v (x4 : Int32) (x5 : Int32) (x6 : Int32) => ∃ j : Nat, v = 5 - j ∧ j ≤ 5 ∧ x6.toInt = (j : Int) ∧ x4.toInt = zLead5 S j ∧ x5.toInt = if zLead5 S j < 0 then (-1 : Int) else (ntm (zno S (zLead5 S j).toNat) : Int)) ?_ 1000000 5 _ _ _ (by omega) ⟨0, rfl, Nat.zero_le _, rfl, ti_m1, ti_m1⟩
    intro rec v x4 x5 x6 hI ih
    obtain ⟨j, hv, j1, j2, j3, j4⟩ := hI
    subst hv
    refine gOk_le (x := 5) (a := 5) rfl j2 (fun z => ?_) (fun z => ?_)
    · have hj : j = 5 := by omega
      subst hj
      exact hj2 _ j3
    · have hj5 : j < 5 := by omega
      have hb := R.2.1 j hj5
      have hz := zLead5_rg S j
      have e6 : (x6 + 1).toInt = ((j + 1 : Nat) : Int) := by rw [ti_add j2 (y := 1) (b := 1) rfl (by omega) (by omega)]; omega
      have keep : ¬ ((nup (zno S j) = true ∧ nro (zno S j) = 2) ∧ (zLead5 S j < 0 ∨ ntm (zno S (zLead5 S j).toNat) < ntm (zno S j))) → gOk (rec x4 x5 (x6 + 1)) (cAns μ [eNS] (if zLead5 S 5 < 0 then (1, 0, S) else (0, zLead5 S 5, S))) := fun c => by
        have e : zLead5 S (j + 1) = zLead5 S j := by
          conv => lhs; unfold zLead5
          rw [if_neg c]
        exact ih _ _ _ (5 - (j + 1)) (by omega) ⟨j + 1, rfl, by omega, e6, by rw [e]; exact j3, by rw [e]; exact j4⟩
      have p5 := ti_inb (n := 5) j2 hj5
      simp only [ti_cl j2]
      refine gOk_chk p5 ?_
      have r0 := hb.1.2.1
      by_cases hu : nup (zno S j) = true
      · rw [hu, if_pos rfl] at r0
        refine gOk_eq r0 (y := 0) (b := 0) rfl (fun y => absurd y (by decide)) (fun _ => ?_)
        refine gOk_eq hb.2.1 (y := 2) (b := 2) rfl (fun w => ?_) (fun w => keep (fun y => w (by have := y.1.2; omega)))
        have hr : nro (zno S j) = 2 := by omega
        refine gOk_le hb.1.2.2.1 j4 (fun y => keep (fun v => ?_)) (fun y => gOk_let (ih _ _ _ (5 - (j + 1)) (by omega) ⟨j + 1, rfl, by omega, e6, ?_, ?_⟩))
        · rcases v.2 with v | v
          · rw [if_pos v] at y; omega
          · by_cases u : zLead5 S j < 0
            · rw [if_pos u] at y; omega
            · rw [if_neg u] at y; omega
        · have c : (nup (zno S j) = true ∧ nro (zno S j) = 2) ∧ (zLead5 S j < 0 ∨ ntm (zno S (zLead5 S j).toNat) < ntm (zno S j)) := ⟨⟨hu, hr⟩, by
            by_cases u : zLead5 S j < 0
            · exact Or.inl u
            · rw [if_neg u] at y; exact Or.inr (by omega)⟩
          conv => rhs; unfold zLead5
          rw [if_pos c]; exact j2
        · have c : (nup (zno S j) = true ∧ nro (zno S j) = 2) ∧ (zLead5 S j < 0 ∨ ntm (zno S (zLead5 S j).toNat) < ntm (zno S j)) := ⟨⟨hu, hr⟩, by
            by_cases u : zLead5 S j < 0
            · exact Or.inl u
            · rw [if_neg u] at y; exact Or.inr (by omega)⟩
          have e : zLead5 S (j + 1) = (j : Int) := by
            conv => lhs; unfold zLead5
            rw [if_pos c]
          rw [e, if_neg (by omega), show ((j : Int)).toNat = j by omega]
          exact hb.1.2.2.1
      · have hu' := hu
        rw [Bool.not_eq_true] at hu'
        rw [hu', if_neg (by decide)] at r0
        exact gOk_eq r0 (y := 0) (b := 0) rfl (fun _ => keep (fun y => hu y.1.1)) (fun y => absurd rfl y)
theorem mX6_winner_ok (R : RB μ 0 S) (hW : zWq S) : gOk (mX6_winner nc a1 μ) (cAns μ [eNS] (zaWin S a1.toInt)) := by
  unfold mX6_winner zaWin
  refine gOk_jq (γ := Unit) (fun _ => ¬ (0 ≤ a1.toInt ∧ a1.toInt ≤ 99 ∧ 0 ≤ (zwi S a1.toInt.toNat).toInt)) (fun _ hc => ?_) (fun j1 hj1 => ?_)
  · rw [if_neg hc]
    exact gOk_some (aNo (by decide) rfl)
  · refine gOk_lt (x := a1) rfl (y := 0) (b := 0) rfl (fun z => hj1 () (fun y => by omega)) (fun z => gOk_le (x := 100) (a := 100) rfl (y := a1) rfl (fun w => hj1 () (fun y => by omega)) (fun w => ?_))
    have e1 : a1.toInt = ((a1.toInt.toNat : Nat) : Int) := by omega
    have p1 := ti_inb (n := 100) e1 (by omega)
    simp only [ti_cl e1]
    rw [R.2.2.2.2.2 _ (show a1.toInt.toNat < 100 by omega)]
    have hw := hW a1.toInt.toNat
    refine gOk_chk p1 (gOk_if (fun y => hj1 () (fun v => ?_)) (fun y => gOk_chk p1 (gOk_some ?_)))
    · rw [y, ti_m1] at v; omega
    · rw [if_pos ⟨z, by omega, hw.resolve_left y⟩]
      exact aYes rfl
theorem mX6_alike_ok (R : RY B μ 0 S) (hnc : 0 < nc) : gOk (mX6_alike nc a1 a2 μ) (cAns μ [eIO] (zaAlike S a1.toInt a2.toInt)) := by
  unfold mX6_alike zaAlike
  refine gOk_rep (fun c => ?_) (fun n hn h1 he => gOk_chk (by omega) ?_)
  · rw [if_pos (show ¬ ((0 ≤ a1.toInt ∧ a1.toInt < 5) ∧ (0 ≤ a2.toInt ∧ a2.toInt < 5)) from fun z => c z.1)]
    exact aNo (by decide) rfl
  · refine gOk_rep (fun c => ?_) (fun i hi h2 he2 => gOk_chk (by omega) ?_)
    · rw [if_pos (show ¬ ((0 ≤ a1.toInt ∧ a1.toInt < 5) ∧ (0 ≤ a2.toInt ∧ a2.toInt < 5)) from fun z => c z.2)]
      exact aNo (by decide) rfl
    · rw [if_neg (show ¬ ¬ ((0 ≤ a1.toInt ∧ a1.toInt < 5) ∧ (0 ≤ a2.toInt ∧ a2.toInt < 5)) from fun y => y ⟨by omega, by omega⟩), he, he2]
      have hb := R.1.2.1 n hn
      have hb2 := R.1.2.1 i hi
      have hlen := R.len hn
      have hlen2 := R.len hi
      have hcl := hb.1.2.2.2.2.2.1
      have hcl2 := hb2.1.2.2.2.2.2.1
      generalize hx : max (nbs (zno S n)) (nbs (zno S i)) = X
      generalize hy : min (nlg (zno S n)).length (nlg (zno S i)).length = Y
      have hYX : Y - X < 1000000 := by have := hcl.2.2.1; omega
      refine gOk_lee (fun x7 h7 => ?_)
      have e7 : x7.toInt = (X : Int) := by
        have r1 := hcl.2.2.2.1
        have r2 := hcl2.2.2.2.1
        rw [h7]
        by_cases z : (μ 12 (5 * 0 + n) 4) < (μ 12 (5 * 0 + i) 4)
        · have := Int32.lt_iff_toInt_lt.mp z
          rw [r1, r2] at this
          rw [if_pos z, r2]
          omega
        · have := Int.not_lt.mp (fun y => z (Int32.lt_iff_toInt_lt.mpr y))
          rw [r1, r2] at this
          rw [if_neg z, r1]
          omega
      refine gOk_bp (mX1_lastIndex_ok hcl (by omega)) (fun r12 h12 => gOk_bp (mX1_lastIndex_ok hcl2 (by omega)) (fun r14 h14 => gOk_lee (fun x15 h15 => ?_)))
      have e15 : x15.toInt = (Y : Int) := by
        rw [h15]
        by_cases z : r14 < r12
        · have := Int32.lt_iff_toInt_lt.mp z
          rw [h12, h14] at this
          rw [if_pos z, h14]
          omega
        · have := Int.not_lt.mp (fun y => z (Int32.lt_iff_toInt_lt.mpr y))
          rw [h12, h14] at this
          rw [if_neg z, h12]
          omega
      refine gOk_le e7 e15 (fun z => ?_) (fun z => gOk_some (aYes ?_))
      · rw [if_neg (show ¬ Y < X by omega)]
        refine gOk_jq (γ := Int32) (fun x => x.toInt = ((zAl (fun i_1 => sqTT (nlg (zno S n)) i_1 == sqTT (nlg (zno S i)) i_1) (Y - X) X : Nat) : Int)) (fun x hc => gOk_some (aYes hc)) (fun j21 hj21 => ?_)
        refine gOk_fx1 (fun v (x22 : Int32) => ∃ c : Nat, v = Y - c ∧ X ≤ c ∧ c ≤ Y ∧ x22.toInt = (c : Int) ∧ zAl (fun i_1 => sqTT (nlg (zno S n)) i_1 == sqTT (nlg (zno S i)) i_1) (Y - c) c = zAl (fun i_1 => sqTT (nlg (zno S n)) i_1 == sqTT (nlg (zno S i)) i_1) (Y - X) X) ?_ 1000000 (Y - X) _ hYX ⟨X, rfl, Nat.le_refl _, by omega, e7, rfl⟩
        intro rec v x22 hI ih
        obtain ⟨c, hv, c1, c2, c3, c4⟩ := hI
        subst hv
        refine gOk_le e15 c3 (fun w => hj21 _ ?_) (fun w => ?_)
        · have hc : Y - c = 0 := by omega
          rw [hc] at c4
          rw [← c4]
          exact c3
        · have e22 : (x22 + 1).toInt = ((c + 1 : Nat) : Int) := by rw [ti_add c3 (y := 1) (b := 1) rfl (by omega) (by omega)]; omega
          have hd : Y - c = (Y - (c + 1)) + 1 := by omega
          refine gOk_bp (mX1_termAt_ok hcl (by omega) e22 (by omega) (by omega)) (fun r26 h26 => gOk_bp (mX1_termAt_ok hcl2 (by omega) e22 (by omega) (by omega)) (fun r28 h28 => ?_))
          rw [hd] at c4
          conv at c4 => lhs; unfold zAl
          refine gOk_eq h26 h28 (fun y => ih _ (Y - (c + 1)) (by omega) ⟨c + 1, rfl, by omega, by omega, e22, ?_⟩) (fun y => hj21 _ ?_)
          · rw [if_pos (beq_iff_eq.mpr (by omega))] at c4
            exact c4
          · rw [if_neg (fun v => y (by have := beq_iff_eq.mp v; omega))] at c4
            rw [← c4]
            exact c3
      · rw [if_pos (show Y < X by omega)]; exact ti_m1
theorem mX6_statistic_ok (R : RB μ 0 S) : gOk (mX6_statistic nc a1 μ) (cAns μ [eIA] (zaStat S a1.toInt)) := by
  unfold mX6_statistic zaStat
  refine gOk_jq (γ := Unit) (fun _ => ¬ (0 ≤ a1.toInt ∧ a1.toInt ≤ 6)) (fun _ hc => ?_) (fun j1 hj1 => ?_)
  · rw [if_neg hc]
    exact gOk_some (aNo (by decide) rfl)
  · refine gOk_lt (x := a1) rfl (y := 0) (b := 0) rfl (fun z => hj1 () (by omega)) (fun z => gOk_le (x := a1) rfl (y := 6) (b := 6) rfl (fun w => ?_) (fun w => hj1 () (by omega)))
    rw [if_pos (show 0 ≤ a1.toInt ∧ a1.toInt ≤ 6 from ⟨z, w⟩)]
    have c5 := R.2.2.2.2.1
    refine gOk_eq (x := a1) rfl (y := 0) (b := 0) rfl (fun y => ?_) (fun y => ?_)
    · rw [if_pos y]; exact gOk_some (aYes R.2.2.2.1)
    · rw [if_neg y]
      refine gOk_eq (x := a1) rfl (y := 1) (b := 1) rfl (fun p => ?_) (fun p => ?_)
      · rw [p]; exact gOk_some (aYes (by rw [R.1.2.2.2.2.2.1]; rfl))
      · refine gOk_eq (x := a1) rfl (y := 2) (b := 2) rfl (fun p => ?_) (fun p => ?_)
        · rw [p]; exact gOk_some (aYes (by rw [R.1.2.2.2.2.2.2.1]; rfl))
        · refine gOk_eq (x := a1) rfl (y := 3) (b := 3) rfl (fun p => ?_) (fun p => ?_)
          · rw [p]; exact gOk_some (aYes (by rw [c5 3 (by omega) (by omega)]; rfl))
          · refine gOk_eq (x := a1) rfl (y := 4) (b := 4) rfl (fun p => ?_) (fun p => ?_)
            · rw [p]; exact gOk_some (aYes (by rw [c5 4 (by omega) (by omega)]; rfl))
            · refine gOk_eq (x := a1) rfl (y := 5) (b := 5) rfl (fun p => ?_) (fun p => ?_)
              · rw [p]; exact gOk_some (aYes (by rw [c5 5 (by omega) (by omega)]; rfl))
              · have p6 : a1.toInt = 6 := by omega
                rw [p6]; exact gOk_some (aYes (by rw [c5 6 (by omega) (by omega)]; rfl))
theorem mX6_save_ok (R : RY B μ 0 S) (hw : RW μ 1) (hnc : nc = 2) : gOk (mX6_save nc μ) (fun p => gFr (rbP 1) μ p.2 ∧ p.1.toInt = (zti S : Int) ∧ RB p.2 0 S ∧ RB p.2 1 S) := by
  subst hnc
  unfold mX6_save
  refine gOk_bp (mX0_copyFrom_ok (by omega) (by omega) (by omega) hw R) (fun μ2 h2 => gOk_some ⟨h2.1, h2.2.2.2.2.1, R.1.fr (by omega) h2.1, h2.2⟩)
theorem mX6_restore_ok (R : RB μ 0 S) (R1 : RY B μ 1 S') (hnc : nc = 2) : gOk (mX6_restore nc μ) (fun q => ∃ p : Int32 × gM, q = .inr p ∧ gFr (rbP 0) μ p.2 ∧ p.1.toInt = (zti S' : Int) ∧ RB p.2 0 S' ∧ RB p.2 1 S') := by
  subst hnc
  unfold mX6_restore
  refine gOk_bp (mX0_copyFrom_ok (by omega) (by omega) (by omega) R.w R1) (fun μ2 h2 => gOk_some ⟨_, rfl, h2.1, h2.2.2.2.2.1, h2.2, R1.1.fr (by omega) h2.1⟩)
end SqCa2
