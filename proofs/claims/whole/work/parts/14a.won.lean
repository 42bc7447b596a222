/-! who has won: kept well formed by every call -/
/-- the notes of the winners: as they were, or a node -/
def zw1 (S S' : sqSt) : Prop := ∀ t, zwi S' t = zwi S t ∨ 0 ≤ (zwi S' t).toInt
section ZW
variable {S S' S'' : sqSt} {n k i w B : Nat} {m : sqMs} {N : sqN} {v x : Int32}
theorem zw1.q (h : zWq S) (h2 : zw1 S S') : zWq S' := fun t => by
  rcases h2 t with e | e
  · rw [e]; exact h t
  · exact Or.inr e
theorem zw1.rf : zw1 S S := fun _ => Or.inl rfl
theorem zw1.tr (h : zw1 S S') (h2 : zw1 S' S'') : zw1 S S'' := fun t => by
  rcases h2 t with e | e
  · rcases h t with e2 | e2
    · exact Or.inl (e.trans e2)
    · exact Or.inr (by rw [e]; exact e2)
  · exact Or.inr e
theorem zw1.of (h : zwi S' = zwi S) : zw1 S S' := fun t => Or.inl (by rw [h])
theorem zw_post (S : sqSt) (m : sqMs) : zw1 S (zPost S m) := by
  unfold zPost
  split <;> exact zw1.of rfl
theorem zw_snd (S : sqSt) (n i : Nat) : zw1 S (zSnd S n i) := by
  unfold zSnd
  split <;> exact zw_post _ _
theorem zw_fold {f : sqSt → Nat → sqSt} (h : ∀ S i, zw1 S (f S i)) : ∀ (l : List Nat) (S : sqSt), zw1 S (l.foldl f S)
  | [], S => zw1.rf
  | i :: l, S => (h S i).tr (zw_fold h l (f S i))
theorem zw_all (S : sqSt) (n : Nat) : zw1 S (zAll S n) := zw_fold (fun S i => by
  show zw1 S (if _ then _ else _)
  split
  · exact zw_snd _ _ _
  · exact zw1.rf) _ _
theorem zw_ask (S : sqSt) (n : Nat) : zw1 S (zAsk S n) := zw_fold (fun S i => by
  show zw1 S (if _ then _ else _)
  split
  · exact zw_post _ _
  · exact zw1.rf) _ _
theorem zw_com (S : sqSt) (n : Nat) : zw1 S (zCom S n) := by
  unfold zCom
  (repeat' split) <;> exact zw1.of rfl
theorem zw_lead (S : sqSt) (hn : n < 5) : zw1 S (zLead S n) := fun t => by
  show (if ntm (zno S n) < 100 then sqU1 (zwi S) (ntm (zno S n)) (Int32.ofNat n) else zwi S) t = zwi S t ∨ _
  by_cases h : ntm (zno S n) < 100
  · by_cases e : t = ntm (zno S n)
    · refine Or.inr ?_
      show 0 ≤ ((if ntm (zno S n) < 100 then sqU1 (zwi S) (ntm (zno S n)) (Int32.ofNat n) else zwi S) t).toInt
      rw [if_pos h, e]
      unfold sqU1
      rw [if_pos rfl, ti_nat (by omega)]
      omega
    · refine Or.inl ?_
      rw [if_pos h]
      unfold sqU1
      rw [if_neg e]
  · exact Or.inl (by rw [if_neg h])
theorem zw_win (S : sqSt) (hn : n < 5) : zw1 S (zWin S n) := by
  unfold zWin
  refine zw1.tr ?_ (zw_all _ _)
  split
  · exact (zw_lead S hn).tr (zw1.tr (S' := zAdd (zLead S n) n 3 0) (zw1.of rfl) (zw_com _ _))
  · exact zw_lead S hn
theorem zw_stand (S : sqSt) (hn : n < 5) : zw1 S (zStand S n) := by
  have h : ∀ x : Int32, zw1 S (zAsk (zN (zS S 3 1) n (nStand (zno S n) n x)) n) := fun x => zw1.tr (S' := zN (zS S 3 1) n (nStand (zno S n) n x)) (zw1.of rfl) (zw_ask _ _)
  unfold zStand
  generalize zTim S n (ntm (zno S n) + 1) = x
  split
  · exact (h x).tr (zw_win _ hn)
  · exact h x
theorem zw_req (S : sqSt) (n : Nat) (m : sqMs) : zw1 S (zReq S n m) := by
  unfold zReq
  generalize zTim S n (ntm (zno S n)) = x
  split
  · exact zw1.tr (S' := zN S n (nTi (nVo (zno S n) (mse m)) x)) (zw1.of rfl) (zw_post _ _)
  · exact zw_post _ _
theorem zw_rep (S : sqSt) (hn : n < 5) (m : sqMs) : zw1 S (zRep S n m) := by
  unfold zRep
  split
  · split
    · exact zw1.tr (S' := zVs S n m) (zw1.of rfl) (zw_win _ hn)
    · exact zw1.of rfl
  · exact zw1.rf
theorem zw_ans (S : sqSt) (n : Nat) (m : sqMs) : zw1 S (zAns S n m) := by
  unfold zAns
  split
  · split
    · refine zw1.tr (S' := zN S n (nAn (zno S n) (mse m) (max (nmt (zno S n) (mse m)) (mix m)) (max (nec (zno S n) (mse m)) (mto m : Int)))) (zw1.of rfl) (zw_com _ _)
    · refine zw1.tr (S' := zN S n (nNx (zno S n) (mse m) (max 1 (min (nnx (zno S n) (mse m) - 1) (mix m + 1))))) (zw1.of rfl) (zw_snd _ _ _)
  · exact zw1.rf
theorem zw_ok (S : sqSt) (n : Nat) (m : sqMs) (a b : Nat) : zw1 S (zOk S n m a b) := zw_post _ _
theorem zw_app (S : sqSt) (n : Nat) (m : sqMs) : zw1 S (zApp S n m) := by
  unfold zApp
  split
  · exact zw_ok _ _ _ _ _
  · exact zw1.tr (zw1.of rfl) (zw_ok _ _ _ _ _)
theorem zw_ins (S : sqSt) (n : Nat) (m : sqMs) : zw1 S (zIns S n m) := by
  unfold zIns
  split
  · exact zw1.tr (zw1.of rfl) (zw_ok _ _ _ _ _)
  · exact zw_ok _ _ _ _ _
theorem zw_ldr (S : sqSt) (n : Nat) (m : sqMs) : zw1 S (zLdr S n m) := by
  unfold zLdr
  generalize zTim S n (ntm (zno S n)) = x
  split
  · exact zw_ok _ _ _ _ _
  · split
    · exact zw1.tr (S' := zN S n (nTi (nRo (zno S n) 0) x)) (zw1.of rfl) (zw_app _ _ _)
    · exact zw1.tr (S' := zN S n (nTi (nRo (zno S n) 0) x)) (zw1.of rfl) (zw_ins _ _ _)
theorem zw_bmp (S : sqSt) (n T : Nat) : zw1 S (zBmp S n T) := by
  unfold zBmp
  split <;> exact zw1.of rfl
theorem zw_rcv (S : sqSt) {m : sqMs} (hm : mre m < 5) : zw1 S (zRcv S m) := by
  unfold zRcv
  split
  · exact zw1.of rfl
  · refine zw1.tr (S' := zBmp S (mre m) (mtm m)) (zw_bmp _ _ _) ?_
    split
    · exact zw_req _ _ _
    · split
      · exact zw_rep _ hm _
      · split
        · exact zw_ans _ _ _
        · exact zw_ldr _ _ _
theorem zI_mre {h : sqH} {w : Nat} (hz : zI h S) (hm : (zms S)[w]? = some m) : mre m < 5 := (hz.2.2.2 m (List.mem_of_getElem? hm)).1.2.1
theorem zw_dlv : ∀ (k w B : Nat) (S : sqSt), 1 ≤ B → zIL B S → zw1 S (zDlv k w S)
  | 0, w, B, S, _, _ => zw1.rf
  | k + 1, w, B, S, h1, I => by
    unfold zDlv
    cases hm : (zms S)[w]? with
    | none => exact zw1.rf
    | some m =>
      show zw1 S (if mdu m ≤ zti S then _ else _)
      split
      · obtain ⟨⟨h, hz⟩, -⟩ := id I
        exact (zw1.tr (S' := zDel S w) (zw1.of rfl) (zw_rcv _ (zI_mre hz hm))).tr (zw_dlv k w (B + 2) _ (by omega) (zIL.rcv I h1 hm))
      · exact zw_dlv k (w + 1) B S h1 I
theorem zw_cnt (S : sqSt) (hn : n < 5) : zw1 S (zCnt S n) := by
  unfold zCnt
  split
  · split
    · split
      · exact zw1.tr (S' := zN S n (nTi (zno S n) 3)) (zw1.of rfl) (zw_all _ _)
      · exact zw1.tr (S' := zN S n (nTi (zno S n) (nti (zno S n) - 1))) (zw1.of rfl) (zw_stand _ hn)
    · exact zw1.of rfl
  · exact zw1.rf
theorem zw_fold5 {f : sqSt → Nat → sqSt} : ∀ (l : List Nat), (∀ S i, i ∈ l → zw1 S (f S i)) → ∀ S : sqSt, zw1 S (l.foldl f S)
  | [], _, S => zw1.rf
  | i :: l, h, S => (h S i List.mem_cons_self).tr (zw_fold5 l (fun S j hj => h S j (List.mem_cons_of_mem _ hj)) (f S i))
theorem zw_tick1 (I : zIL B S) : zw1 S (zTick1 S) := by
  unfold zTick1
  refine zw1.tr (S' := zDlv (zms S).length 0 (zTi S (zti S + 1))) ?_ (zw_fold5 _ (fun S i hi => zw_cnt S (List.mem_range.mp hi)) _)
  exact zw1.tr (S' := zTi S (zti S + 1)) (zw1.of rfl) (zw_dlv _ _ (B + 1) _ (by omega) (zIL.time I))
theorem zw_tick : ∀ (k B : Nat) (S : sqSt), zIL B S → zw1 S (zTick k S)
  | 0, B, S, _ => zw1.rf
  | k + 1, B, S, I => (zw_tick1 I).tr (zw_tick k (B + 96) _ (zIL.tick1 I).1)
theorem zw_sub (S : sqSt) (n k : Nat) (v : Int32) : zw1 S (zSub S n k v) ∧ zti (zSub S n k v) ≤ zti S + 60 := by
  refine ⟨zw1.tr (S' := zAdd S n k v) (zw1.of rfl) (zw_com _ _), ?_⟩
  unfold zSub zCom
  (repeat' split) <;> exact Nat.le_add_right _ _
/-- what a command of a script does to the time and to the notes -/
theorem zw_doit {c : Nat × Nat × Nat} (I : zIL B S) (hw : c.1 < 7) : zw1 S (zDo c S).2.2 ∧ zti (zDo c S).2.2 ≤ zti S + 60 := by
  have hN : ∀ (n : Nat) (N : sqN), zw1 S (zN S n N) ∧ zti (zN S n N) ≤ zti S + 60 := fun n N => ⟨zw1.of rfl, Nat.le_add_right _ _⟩
  rcases zDo_at (S := S) hw with ⟨u, v⟩ | ⟨u, v⟩ | ⟨u, v⟩ | ⟨u, v⟩ | ⟨u, v⟩ | ⟨u, v⟩ | ⟨u, v⟩ <;> rw [v]
  · unfold zaTick
    split
    · rename_i h
      refine ⟨zw_tick _ _ _ I, ?_⟩
      show zti (zTick _ S) ≤ _
      rw [(zIL.tick _ _ _ I).2]
      omega
    · exact ⟨zw1.rf, Nat.le_add_right _ _⟩
  · unfold zaCrash
    split
    · exact ⟨zw1.rf, Nat.le_add_right _ _⟩
    · split
      · exact ⟨zw1.rf, Nat.le_add_right _ _⟩
      · exact hN _ _
  · unfold zaBack
    split
    · exact ⟨zw1.rf, Nat.le_add_right _ _⟩
    · split
      · exact ⟨zw1.rf, Nat.le_add_right _ _⟩
      · exact hN _ _
  · unfold zaLink
    split
    · exact ⟨zw1.rf, Nat.le_add_right _ _⟩
    · split
      · exact ⟨zw1.rf, Nat.le_add_right _ _⟩
      · exact ⟨zw1.of rfl, Nat.le_add_right _ _⟩
  · unfold zaLink
    split
    · exact ⟨zw1.rf, Nat.le_add_right _ _⟩
    · split
      · exact ⟨zw1.rf, Nat.le_add_right _ _⟩
      · exact ⟨zw1.of rfl, Nat.le_add_right _ _⟩
  · unfold zaSub
    split
    · exact ⟨zw1.rf, Nat.le_add_right _ _⟩
    · split
      · exact ⟨zw1.rf, Nat.le_add_right _ _⟩
      · split
        · exact ⟨zw1.rf, Nat.le_add_right _ _⟩
        · exact zw_sub _ _ _ _
  · unfold zaPack
    split
    · exact ⟨zw1.rf, Nat.le_add_right _ _⟩
    · split
      · exact ⟨zw1.rf, Nat.le_add_right _ _⟩
      · exact hN _ _
theorem zw_run : ∀ (cs : List (Nat × Nat × Nat)) (B : Nat) (S : sqSt), zIL B S → (∀ c ∈ cs, c.1 < 7) → zw1 S (zRun cs S).2 ∧ zti (zRun cs S).2 ≤ zti S + 60 * cs.length
  | [], B, S, _, _ => ⟨zw1.rf, Nat.le_add_right _ _⟩
  | c :: cs, B, S, I, h => by
    have h1 := zw_doit I (h c List.mem_cons_self)
    unfold zRun
    split
    · have h2 := zw_run cs (B + 5760) (zDo c S).2.2 (zIL.doit I (h c List.mem_cons_self)) (fun d hd => h d (List.mem_cons_of_mem _ hd))
      refine ⟨h1.1.tr h2.1, ?_⟩
      have h3 := h1.2
      have h4 := h2.2
      simp only [List.length_cons]
      omega
    · refine ⟨h1.1, ?_⟩
      have h3 := h1.2
      simp only [List.length_cons]
      omega
end ZW
