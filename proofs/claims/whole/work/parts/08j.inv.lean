/-! Safety goes on to hold: appends, snapshots. -/
section ZI2
variable {h h' : sqH} {S : sqSt} {n t : Nat} {N : sqN} {m : sqMs}
theorem zI.app (I : zI h S) (hn : n < 5) (M : sqMI h m) (hk : mki m = 2) (hr : nro (zno S n) = 0) (ht : mtm m = ntm (zno S n)) : ∃ h', zI h' (zApp S n m) := by
  have a := I.2.2.1 n hn
  obtain ⟨⟨m1, m2, m3⟩, -, -, m4, -⟩ := M
  obtain ⟨k1, k2, k3, k4, k5, k6, k7, k8⟩ := m4 hk
  rw [ht] at k1 k2 k3 k4 k7 k8
  have hT : hel h (ntm (zno S n)) ≠ none := by rw [k1]; exact Option.some_ne_none _
  unfold zApp
  by_cases q : (nlg (zno S n)).length < mix m ∨ (nbs (zno S n) < mix m ∧ sqTT (nlg (zno S n)) (mix m) ≠ mbf m)
  · rw [if_pos q]
    exact ⟨h, I.ok hn m1 (fun r => by cases r)⟩
  · rw [if_neg q]
    have q1 : mix m ≤ (nlg (zno S n)).length := Nat.le_of_not_lt (fun z => q (Or.inl z))
    have hag := sqNI.agree I.2.1 a hT
    have hA : sqA (nlg (zno S n)) (hLg h (ntm (zno S n))) (mix m) := by
      rcases Nat.lt_or_ge (nbs (zno S n)) (mix m) with z | z
      · have q2 : sqTT (nlg (zno S n)) (mix m) = mbf m := Classical.byContradiction fun w => q (Or.inr ⟨z, w⟩)
        rw [k3] at q2
        obtain ⟨j, hj⟩ : ∃ j, mix m = j + 1 := ⟨mix m - 1, by omega⟩
        rw [hj] at q1 q2 k2 ⊢
        have g1 := List.getElem?_eq_getElem q1
        have g2 := List.getElem?_eq_getElem k2
        rw [sqTT_some g1, sqTT_some g2] at q2
        exact sqO_match a.1.1 (sqO_Lg I.2.1 hT) g1 g2 q2
      · exact hag.mono (Nat.le_trans z a.2.2.2.1.1)
    obtain ⟨b1, b2⟩ := sqNI.takes (n := n) I.2.1 hT (mes m) (zno S n) (mix m) hr a hT hA k4
    generalize sqTake (nbs (zno S n)) (mes m) (nlg (zno S n)) (mix m) = r at b1 b2
    have hb := b1.2.2.2.1
    have hS2 : sqS h (ntm (zno S n)) r.1 (max (ncm (zno S n)) (min (mcm m) r.2.1)) := by
      rcases Nat.le_total (min (mcm m) r.2.1) (ncm (zno S n)) with z | z
      · rw [Nat.max_eq_left z]; exact hb.2.2.2
      · rw [Nat.max_eq_right z]
        exact (k8.mono (Nat.min_le_left _ _)).mv (b2.mono (Nat.min_le_right _ _)).symm
    have a2 : sqNI h n (nCm (nLg (zno S n) r.1) (max (ncm (zno S n)) (min (mcm m) r.2.1))) := sqNI.com b1 rfl rfl rfl rfl (Nat.le_max_left _ _) (Nat.max_le.mpr ⟨hb.2.1, Nat.le_trans (Nat.min_le_right _ _) b2.1⟩) hS2 (fun z => by
      have z' : nro (zno S n) = 2 := z
      rw [hr] at z'; cases z') (fun z => by
      have z' : nro (zno S n) = 1 := z
      rw [hr] at z'; cases z')
    have I1 : zI h (zS (zN S n (nCm (nLg (zno S n) r.1) (max (ncm (zno S n)) (min (mcm m) r.2.1)))) 5 (Int32.ofNat r.2.2)) := zI.stat (I.node a2)
    have e1 : zno (zS (zN S n (nCm (nLg (zno S n) r.1) (max (ncm (zno S n)) (min (mcm m) r.2.1)))) 5 (Int32.ofNat r.2.2)) n = nCm (nLg (zno S n) r.1) (max (ncm (zno S n)) (min (mcm m) r.2.1)) := zN_at _ _ _
    obtain ⟨c1, c2, c3, c4⟩ := sq_ack I.2.1 a2 hT b2
    have I2 := zI.grow0 I1 hn c1 c2 (by rw [e1]; exact c3)
    refine ⟨_, I2.ok hn m1 (fun _ => ?_)⟩
    rw [e1]
    exact ⟨k1, c4⟩
theorem zI.ins (I : zI h S) (hn : n < 5) (M : sqMI h m) (hk : mki m = 4) (hr : nro (zno S n) = 0) (ht : mtm m = ntm (zno S n)) : ∃ h', zI h' (zIns S n m) := by
  have a := I.2.2.1 n hn
  obtain ⟨⟨m1, m2, m3⟩, -, -, -, -, m4⟩ := M
  obtain ⟨k1, k2, k3, k4, k5⟩ := m4 hk
  rw [ht] at k1 k2 k3 k4 k5
  have hT : hel h (ntm (zno S n)) ≠ none := by rw [k1]; exact Option.some_ne_none _
  unfold zIns
  by_cases q : ncm (zno S n) < mix m
  · rw [if_pos q]
    have a2 : sqNI h n (nCm (nBs (nLg (zno S n) (if mix m ≤ (nlg (zno S n)).length ∧ sqTT (nlg (zno S n)) (mix m) = mfl m then nlg (zno S n) else mes m)) (mix m)) (mix m)) := by
      refine sqNI.inst I.2.1 a hT k2 k3 q ?_ rfl rfl rfl rfl hr
      by_cases z : mix m ≤ (nlg (zno S n)).length ∧ sqTT (nlg (zno S n)) (mix m) = mfl m
      · rw [if_pos z]
        refine Or.inl ⟨?_, rfl⟩
        obtain ⟨z1, z2⟩ := z
        rw [k4] at z2
        obtain ⟨j, hj⟩ : ∃ j, mix m = j + 1 := ⟨mix m - 1, by omega⟩
        rw [hj] at z1 z2 k2 ⊢
        have g1 := List.getElem?_eq_getElem z1
        have g2 := List.getElem?_eq_getElem k2
        rw [sqTT_some g1, sqTT_some g2] at z2
        exact sqO_match a.1.1 (sqO_Lg I.2.1 hT) g1 g2 z2
      · rw [if_neg z]
        refine Or.inr ⟨fun w => z ⟨w.1, ?_⟩, k5⟩
        rw [k4]; exact sqTT_A w (Nat.le_refl _)
    generalize (if mix m ≤ (nlg (zno S n)).length ∧ sqTT (nlg (zno S n)) (mix m) = mfl m then nlg (zno S n) else mes m) = l at a2
    have I1 : zI h (zS (zN S n (nCm (nBs (nLg (zno S n) l) (mix m)) (mix m))) 6 1) := zI.stat (I.node a2)
    have e1 : zno (zS (zN S n (nCm (nBs (nLg (zno S n) l) (mix m)) (mix m))) 6 1) n = nCm (nBs (nLg (zno S n) l) (mix m)) (mix m) := zN_at _ _ _
    obtain ⟨c1, c2, c3, c4⟩ := sq_ack I.2.1 a2 hT (e := mix m) (sqNI.agree I.2.1 a2 hT)
    have I2 := zI.grow0 I1 hn c1 c2 (by rw [e1]; exact c3)
    refine ⟨_, I2.ok hn m1 (fun _ => ?_)⟩
    rw [e1]
    exact ⟨k1, c4⟩
  · rw [if_neg q]
    obtain ⟨c1, c2, c3, c4⟩ := sq_ack I.2.1 a hT (sqNI.agree I.2.1 a hT)
    have I2 := zI.grow0 I hn c1 c2 c3
    exact ⟨_, I2.ok hn m1 (fun _ => ⟨k1, c4⟩)⟩
end ZI2
