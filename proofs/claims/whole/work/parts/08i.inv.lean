/-! Safety goes on to hold: requests, answers, entries taken. -/
section ZI2
variable {h h' : sqH} {S : sqSt} {n t : Nat} {N : sqN} {m : sqMs}
theorem zI.req1 (I : zI h S) (hn : n < 5) (M : sqMI h m) (hk : mki m = 0) (q : zGr (zno S n) m = true) (x : Int32) (T d ti : Nat) (hT : T = ntm (zno S n)) : ∃ h', zI h' (zPost (zN S n (nTi (nVo (zno S n) (mse m)) x)) (1, n, mse m, T, d, 0, 1, ti, 0, 0, [])) := by
  have a := I.2.2.1 n hn
  obtain ⟨⟨m1, m2, m3⟩, m4, -⟩ := M
  obtain ⟨k1, k2, k3⟩ := m4 hk
  obtain ⟨q1, q2, q3⟩ := of_decide_eq_true q
  rw [q1] at k1 k2 k3
  rw [k1, k2] at q3
  subst hT
  rcases q2 with q2 | q2
  · obtain ⟨b1, b2, b3⟩ := sq_vote (N' := nTi (nVo (zno S n) (mse m)) x) I.2.1 a q2 k3 q3 rfl rfl rfl rfl rfl rfl rfl rfl
    have I1 := I.grow b1 b2 b3
    exact ⟨_, I1.post ⟨⟨hn, m1, by show 1 ≤ 4; decide⟩, fun r => (by cases r), fun _ _ => sqU2_at, fun r => (by cases r), fun r => (by cases r), fun r => (by cases r)⟩⟩
  · have a1 : sqNI h n (nTi (nVo (zno S n) (mse m)) x) := sqNI.same a rfl q2.symm rfl ⟨Nat.le_refl _, a.2.2.2.1.1⟩ (Nat.le_refl _) (fun r => ⟨r, (a.2.2.2.2.1 r).2.2.2⟩) (fun r => ⟨r, (a.2.2.2.2.2 r).2.2.2⟩)
    exact ⟨h, (I.node a1).post ⟨⟨hn, m1, by show 1 ≤ 4; decide⟩, fun r => (by cases r), fun _ _ => a.2.2.1.2.2.1.trans q2, fun r => (by cases r), fun r => (by cases r), fun r => (by cases r)⟩⟩
theorem zI.req (I : zI h S) (hn : n < 5) (M : sqMI h m) (hk : mki m = 0) : ∃ h', zI h' (zReq S n m) := by
  unfold zReq
  by_cases q : zGr (zno S n) m = true
  · rw [if_pos q]
    exact I.req1 hn M hk q _ _ _ _ rfl
  · rw [if_neg q]
    exact ⟨h, I.post ⟨⟨hn, M.1.1, by show 1 ≤ 4; decide⟩, fun r => (by cases r), fun _ r => (by cases r), fun r => (by cases r), fun r => (by cases r), fun r => (by cases r)⟩⟩
theorem zI.ans (I : zI h S) (hn : n < 5) (M : sqMI h m) (hk : mki m = 3) : ∃ h', zI h' (zAns S n m) := by
  have a := I.2.2.1 n hn
  obtain ⟨⟨m1, m2, m3⟩, -, -, -, m4, -⟩ := M
  unfold zAns
  by_cases q : nro (zno S n) = 2 ∧ mtm m = ntm (zno S n)
  · rw [if_pos q]
    obtain ⟨q1, q2⟩ := q
    obtain ⟨l1, l2, l3, l4⟩ := a.2.2.2.2.1 q1
    by_cases p : mfl m = 1
    · rw [if_pos p]
      have hix := (m4 hk p).2
      rw [q2] at hix
      have hmx : max (nmt (zno S n) (mse m)) (mix m) ≤ hak h (ntm (zno S n)) (mse m) := Nat.max_le.mpr ⟨(l4 _ m1).1, hix⟩
      have hle := (I.2.1.2.2.2.2.2.1 (ntm (zno S n)) (mse m)).1
      rw [← l2] at hle
      have a1 : sqNI h n (nAn (zno S n) (mse m) (max (nmt (zno S n) (mse m)) (mix m)) (max (nec (zno S n) (mse m)) (mto m : Int))) := sqNI.same a rfl rfl rfl ⟨Nat.le_refl _, a.2.2.2.1.1⟩ (Nat.le_refl _) (fun r => ⟨r, fun u hu => by
        show sqU1 (nmt (zno S n)) (mse m) _ u ≤ _ ∧ 1 ≤ sqU1 (nnx (zno S n)) (mse m) _ u ∧ sqU1 (nnx (zno S n)) (mse m) _ u ≤ _
        by_cases hu2 : u = mse m
        · rw [hu2, sqU1_at, sqU1_at]
          exact ⟨hmx, Nat.succ_le_succ (Nat.zero_le _), Nat.succ_le_succ (Nat.le_trans hmx hle)⟩
        · rw [sqU1_ne hu2, sqU1_ne hu2]; exact l4 u hu⟩) (fun r => ⟨r, (a.2.2.2.2.2 r).2.2.2⟩)
      have I1 := I.node a1
      obtain ⟨h', I2, -⟩ := zI.com I1 hn (by rw [zN_at]; exact q1)
      exact ⟨h', I2⟩
    · rw [if_neg p]
      have a1 : sqNI h n (nNx (zno S n) (mse m) (max 1 (min (nnx (zno S n) (mse m) - 1) (mix m + 1)))) := sqNI.same a rfl rfl rfl ⟨Nat.le_refl _, a.2.2.2.1.1⟩ (Nat.le_refl _) (fun r => ⟨r, fun u hu => by
        show nmt (zno S n) u ≤ _ ∧ 1 ≤ sqU1 (nnx (zno S n)) (mse m) _ u ∧ sqU1 (nnx (zno S n)) (mse m) _ u ≤ _
        by_cases hu2 : u = mse m
        · rw [hu2, sqU1_at]
          have := (l4 _ m1)
          exact ⟨this.1, by omega, by omega⟩
        · rw [sqU1_ne hu2]; exact l4 u hu⟩) (fun r => ⟨r, (a.2.2.2.2.2 r).2.2.2⟩)
      have I1 := I.node a1
      exact ⟨h, I1.snd hn m1 (by rw [zN_at]; exact sqNI.ld a1 q1)⟩
  · rw [if_neg q]; exact ⟨h, I⟩
theorem zI.ok (I : zI h S) (hn : n < 5) (hs : mse m < 5) {fl ix : Nat} (hf : fl = 1 → hel h (ntm (zno S n)) = some (mse m) ∧ ix ≤ hak h (ntm (zno S n)) n) : zI h (zOk S n m fl ix) :=
  I.post ⟨⟨hn, hs, by show 3 ≤ 4; decide⟩, fun r => (by cases r), fun r => (by cases r), fun r => (by cases r), fun _ r => hf r, fun r => (by cases r)⟩
/-- entries that are taken: the node stays sound, and agrees with the leader up to the end -/
theorem sqNI.takes (I : sqI h) (hT : hel h (ntm N) ≠ none) : ∀ (es : List sqE) (N : sqN) (idx : Nat), nro N = 0 → sqNI h n N → hel h (ntm N) ≠ none → sqA (nlg N) (hLg h (ntm N)) idx → (∀ (k : Nat) (e : sqE), es[k]? = some e → (hLg h (ntm N))[idx + k]? = some e) → sqNI h n (nLg N (sqTake (nbs N) es (nlg N) idx).1) ∧ sqA (sqTake (nbs N) es (nlg N) idx).1 (hLg h (ntm N)) (sqTake (nbs N) es (nlg N) idx).2.1 := by
  intro es
  induction es with
  | nil => intro N idx hr a hT hA _; exact ⟨a, hA⟩
  | cons e es ih =>
    intro N idx hr a hT hA he
    have he0 : (hLg h (ntm N))[idx]? = some e := he 0 e rfl
    have he' : ∀ (k : Nat) (f : sqE), es[k]? = some f → (hLg h (ntm N))[idx + 1 + k]? = some f := fun k f hk => by
      have := he (k + 1) f hk
      rw [show idx + 1 + k = idx + (k + 1) by omega]; exact this
    have hag := sqNI.agree I a hT
    have hb := a.2.2.2.1
    unfold sqTake
    by_cases q1 : idx + 1 ≤ nbs N
    · rw [if_pos q1]
      exact ih N (idx + 1) hr a hT (hag.mono (Nat.le_trans q1 hb.1)) he'
    · rw [if_neg q1]
      by_cases q2 : idx < (nlg N).length
      · rw [if_pos q2]
        have hg : (nlg N)[idx]? = some (nlg N)[idx] := List.getElem?_eq_getElem q2
        by_cases q3 : sqTT (nlg N) (idx + 1) = sqT e
        · rw [if_pos q3]
          rw [sqTT_some hg] at q3
          exact ih N (idx + 1) hr a hT (sqO_match a.1.1 (sqO_Lg I hT) hg he0 q3) he'
        · rw [if_neg q3]
          rw [sqTT_some hg] at q3
          obtain ⟨b1, b2, b3, b4⟩ := sqNI.take (N' := nLg N ((nlg N).take idx ++ [e])) I a hT hA he0 (Or.inr ⟨_, hg, q3⟩) rfl rfl rfl rfl rfl hr (by omega)
          exact ih (nLg N ((nlg N).take idx ++ [e])) (idx + 1) hr b1 hT b2 he'
      · rw [if_neg q2]
        by_cases q3 : (nlg N).length < nbs N + 24
        · rw [if_pos q3]
          have hle : (nlg N).length = idx := Nat.le_antisymm (Nat.le_of_not_lt q2) hA.1
          obtain ⟨b1, b2, b3, b4⟩ := sqNI.take (N' := nLg N ((nlg N).take idx ++ [e])) I a hT hA he0 (Or.inl hle) rfl rfl rfl rfl rfl hr (by omega)
          have e1 : (nlg N).take idx = nlg N := by rw [← hle, List.take_length]
          rw [e1] at b1 b2
          exact ih (nLg N (nlg N ++ [e])) (idx + 1) hr b1 hT b2 he'
        · rw [if_neg q3]
          exact ⟨a, hA⟩
end ZI2
