/-! The reference: what comes from a leader; receiving. -/
section SqRef18
variable {μ : gM} {S : sqSt} {B n k i : Nat} {a1 a2 a3 a4 a5 : Int32} {N : sqN} {A A' : Nat → Int32} {m : sqMs} {h : sqH}
theorem mX7_receiveSnapshot_ok (R : RZ B (μ 1 0) S) (hn : n < 5) (h1 : a1.toInt = (n : Int)) (hG : RM (μ 4 0) (zg S) m) (hs : mse m < 5) (hk : mki m = 4) (hB : mix m < 900000000) (hlen : (mes m).length = mix m) (hT : sqTT (mes m) (mix m) = mfl m) (hsame : (mix m ≤ (nlg (zno S n)).length ∧ sqTT (nlg (zno S n)) (mix m) = mfl m) → 0 < mix m → (nlg (zno S n)).take (mix m) = mes m) (hZ : ncm (zno S n) < mix m → zIL B (zN S n (nCm (nBs (nLg (zno S n) (if mix m ≤ (nlg (zno S n)).length ∧ sqTT (nlg (zno S n)) (mix m) = mfl m then nlg (zno S n) else mes m)) (mix m)) (mix m)))) : gOk (mX7_receiveSnapshot a1 μ) (fun μ' => gF1 μ μ' ∧ RA (μ' 1 0) (zIns S n m)) := by
  have hb := R.bd hn
  have hR := R.1.2.1 n hn
  have r4 := hR.1.2.2.2.1
  have g5 := hG.2.2.2.2.2.1
  have g6 := hG.2.2.2.2.2.2.1
  unfold mX7_receiveSnapshot
  refine gOk_be (mX7_of_ok μ h1 (k := 4) rfl hn (by omega)) (gOk_jq (γ := gM) (fun μ3 => gF1 μ μ3 ∧ ∃ S3, RZ B (μ3 1 0) S3 ∧ zg S3 = zg S ∧ zIns S n m = zOk S3 n m 1 (ncm (zno S3 n))) (fun μ3 h3 => ?_) (fun j4 hj4 => ?_))
  · obtain ⟨f3, S3, R3, e3, z3⟩ := h3
    have hG' : RM (μ3 4 0) (zg S3) m := by rw [f3 4 0 (by omega), e3]; exact hG
    rw [z3]
    refine gOk_be (mX7_of_ok μ3 h1 (k := 4) rfl hn (by omega)) ?_
    exact gOk_bp (mX7_answer_ok R3 hn hG' hs (fl := 1) h1 (R3.1.2.1 n hn).1.2.2.2.1 rfl) (fun μ8 h8 => gOk_some ⟨f3.tr h8.1, h8.2⟩)
  · refine gOk_le g5 r4 (fun q => hj4 _ ⟨gF1.rf, S, R, rfl, ?_⟩) (fun q => ?_)
    · unfold zIns
      rw [if_neg (by omega)]
    · have hc : ncm (zno S n) < mix m := by omega
      have hZ' := hZ hc
      have hj : ∀ μ', gF1 μ μ' → RZ B (μ' 1 0) (zS (zN S n (nCm (nBs (nLg (zno S n) (if mix m ≤ (nlg (zno S n)).length ∧ sqTT (nlg (zno S n)) (mix m) = mfl m then nlg (zno S n) else mes m)) (mix m)) (mix m))) 6 1) → gOk (j4 μ') (fun μ' => gF1 μ μ' ∧ RA (μ' 1 0) (zIns S n m)) := by
        intro μ' f r
        refine hj4 _ ⟨f, _, r, rfl, ?_⟩
        unfold zIns
        rw [if_pos hc]
        have e : ncm (zno (zS (zN S n (nCm (nBs (nLg (zno S n) (if mix m ≤ (nlg (zno S n)).length ∧ sqTT (nlg (zno S n)) (mix m) = mfl m then nlg (zno S n) else mes m)) (mix m)) (mix m))) 6 1) n) = mix m := by
          rw [zS_no, zN_at]; rfl
        rw [e]
      have tail := fun {x12 : Int32} (hx : x12 = 0 ↔ ¬ (mix m ≤ (nlg (zno S n)).length ∧ sqTT (nlg (zno S n)) (mix m) = mfl m)) => mX7_snap_tail R hn h1 hG hk hB hc hlen hT (fun z => hsame z (by omega)) hZ' hj hx
      refine gOk_bp (mX7_last_ok R.1 R.2.1.2 R.2.2 hn h1) (fun r11 h11 => gOk_jon (gOk_jon (gOk_lt h11 g5 (fun w => ?_) (fun w => ?_))))
      · exact tail ⟨fun _ z => by omega, fun _ => rfl⟩
      · refine gOk_bp (mX7_termAt_ok R.1 R.2.1.2 R.2.2 hn h1 g5 (by omega) (by omega)) (fun r41 h41 => gOk_lee (fun x42 h42 => tail ?_))
        rw [h42]
        by_cases z : r41 = μ 4 0 6
        · rw [if_pos z]
          have : r41.toInt = (mfl m : Int) := by rw [z]; exact g6
          rw [h41] at this
          exact ⟨fun y => absurd y (by decide), fun y => absurd ⟨by omega, by omega⟩ y⟩
        · rw [if_neg z]
          exact ⟨fun _ y => z (ti_eq h41 (by rw [g6, y.2])), fun _ => rfl⟩
theorem mX7_ldr_x (R : RA (μ 1 0) S) (I : zI h S) (L : LI B S) (hB : B < 800000000) (hn : n < 5) (h1 : a1.toInt = (n : Int)) (hG : RM (μ 4 0) (zg S) m) (M : sqMI h m) (LMm : LM B (zti S) m) (hk : mki m = 2 ∨ mki m = 4) (ht : mtm m ≤ ntm (zno S n)) (x : Int32) (hx : ∀ μ10 : gM, μ10 1 0 2 = zse S → (rN (μ10 1 0) n 2).toInt = (ntm (zno S n) : Int) → gOk (mX7_resetTimer a1 μ10) (fun μ12 => μ12 = w3 μ10 1 0 (116 + 100 * n + 5) x)) : gOk (mX7_receiveFromLeader a1 μ) (fun μ' => gF1 μ μ' ∧ RA (μ' 1 0) (if mtm m < ntm (zno S n) then zOk S n m 0 0 else if mki m = 2 then zApp (zN S n (nTi (nRo (zno S n) 0) x)) n m else zIns (zN S n (nTi (nRo (zno S n) 0) x)) n m)) := by
  have RZ0 : RZ B (μ 1 0) S := ⟨R, ⟨⟨h, I⟩, L⟩, by omega⟩
  have hR := R.2.1 n hn
  have r2 := hR.1.2.1
  have hG' := hG
  obtain ⟨g0, g1, g2, g3, g4, g5, g6, g7, g8, g9⟩ := hG'
  unfold mX7_receiveFromLeader
  refine gOk_be (mX7_of_ok μ h1 (k := 2) rfl hn (by omega)) (gOk_le r2 g3 (fun q => ?_) (fun q => ?_))
  · rw [if_neg (by omega)]
    obtain ⟨I1, e1, e2⟩ := I.ldr1 hn x rfl
    obtain ⟨L1, e3⟩ := L.fo hn x rfl
    refine gOk_be (mX7_set_ok μ h1 (k := 1) rfl hn (by omega)) ?_
    refine gOk_bp (hx _ (by rw [w3_10, upd_ne _ _ (by omega)]; exact R.1.2.2.1) (by rw [w3_10, rN_upd, upd_ne _ _ (by omega)]; exact r2)) (fun μ7 h7 => ?_)
    have F7 : gF1 μ μ7 := by rw [h7]; exact gF1.w.tr gF1.w
    have R7 : RA (μ7 1 0) (zN S n (nTi (nRo (zno S n) 0) x)) := by
      rw [h7]
      simp only [w3_10]
      refine R.nd RZ0.2.1 hn (fun k hk => by rw [upd_ne _ _ (by omega), upd_ne _ _ (by omega)]) ?_
      rw [rN_upd, rN_upd]
      exact hR.fo.ti x
    have e7 : μ7 4 0 = μ 4 0 := F7 4 0 (by omega)
    generalize hS1 : zN S n (nTi (nRo (zno S n) 0) x) = S1 at *
    have eg : zg S1 = zg S := by rw [← hS1]; rfl
    have RZ1 : RZ B (μ7 1 0) S1 := ⟨R7, ⟨⟨h, I1⟩, L1⟩, by omega⟩
    have L1m : LM B (zti S1) m := by rw [e3]; exact LMm
    have hG7 : RM (μ7 4 0) (zg S1) m := by rw [e7, eg]; exact hG
    have ht1 : mtm m = ntm (zno S1 n) := by omega
    have k0 : (μ7 4 0 0).toInt = (mki m : Int) := by rw [e7]; exact g0
    refine gOk_eq k0 (y := 2) (b := 2) rfl (fun w => ?_) (fun w => ?_)
    · have hk2 : mki m = 2 := by omega
      rw [if_pos hk2]
      obtain ⟨m5, m6⟩ : (mes m).length ≤ 4 ∧ mfl m = (mes m).length := ⟨(M.2.2.2.1 hk2).2.2.2.2.1, (M.2.2.2.1 hk2).2.2.2.2.2.1⟩
      exact gOk_bp (mX7_receiveAppend_ok RZ1 hB hn h1 hG7 M.1.1 hk2 m5 m6 L1m (fun c => zIL.app1 I1 L1 hn M L1m hk2 e1 ht1 c)) (fun μ12 h12 => gOk_some ⟨F7.tr h12.1, h12.2⟩)
    · have hk4 : mki m = 4 := by omega
      rw [if_neg (by omega)]
      obtain ⟨i1, i2, i3, i4⟩ := I1.ins1 L1 hn M L1m hk4 e1 ht1
      exact gOk_bp (mX7_receiveSnapshot_ok RZ1 hn h1 hG7 M.1.1 hk4 (by have := LMm.2.1; omega) i1 i2 i3 i4) (fun μ12 h12 => gOk_some ⟨F7.tr h12.1, h12.2⟩)
  · rw [if_pos (by omega)]
    exact gOk_bp (mX7_answer_ok RZ0 hn hG M.1.1 (ix := 0) (fl := 0) h1 rfl rfl) (fun μ14 h14 => gOk_some h14)
theorem mX7_receiveFromLeader_ok (R : RA (μ 1 0) S) (I : zI h S) (L : LI B S) (hB : B < 800000000) (hn : n < 5) (h1 : a1.toInt = (n : Int)) (hG : RM (μ 4 0) (zg S) m) (M : sqMI h m) (LMm : LM B (zti S) m) (hk : mki m = 2 ∨ mki m = 4) (ht : mtm m ≤ ntm (zno S n)) : gOk (mX7_receiveFromLeader a1 μ) (fun μ' => gF1 μ μ' ∧ RA (μ' 1 0) (zLdr S n m)) := by
  unfold zLdr
  exact mX7_ldr_x R I L hB hn h1 hG M LMm hk ht _ (mX7_reset_raw hn h1)
theorem RN.bm {r r' : Nat → Int32} {g : Nat} (h : RN r g N) {T : Nat} {x : Int32} (hx : x.toInt = (T : Int)) (hr : r' = upd (upd (upd r 2 x) 3 (-1)) 1 0) : RN r' g (nBm N T) := by
  obtain ⟨h1, h2, h3, h4, h5, h6, h7, h8, h9, h10, h11, h12⟩ := h.1
  have hs : ∀ k, k ≠ 1 → k ≠ 2 → k ≠ 3 → r' k = r k := fun k a b c => by rw [hr, upd_ne _ _ a, upd_ne _ _ c, upd_ne _ _ b]
  refine ⟨⟨?_, ?_, ?_, ?_, ?_, ?_, ?_, ?_, ?_, ?_, h11, fun j e hj => ?_⟩, ?_, ?_, fun q => (by cases q), fun q => (by cases q)⟩
  · rw [hs 0 (by omega) (by omega) (by omega)]; exact h1
  · rw [hr, upd_ne _ _ (by omega), upd_ne _ _ (by omega), upd_at]; exact hx
  · rw [hr, upd_ne _ _ (by omega), upd_at]; exact ti_m1
  · rw [hs 4 (by omega) (by omega) (by omega)]; exact h4
  · rw [hs 7 (by omega) (by omega) (by omega)]; exact h5
  · rw [hs 8 (by omega) (by omega) (by omega)]; exact h6
  · rw [hs 9 (by omega) (by omega) (by omega)]; exact h7
  · rw [hs 10 (by omega) (by omega) (by omega)]; exact h8
  · rw [hs 11 (by omega) (by omega) (by omega)]; exact h9
  · rw [hs 12 (by omega) (by omega) (by omega)]; exact h10
  · rw [hs _ (by omega) (by omega) (by omega), hs _ (by omega) (by omega) (by omega), hs _ (by omega) (by omega) (by omega)]; exact h12 j e hj
  · rw [hr, upd_at]; rfl
  · rw [hs 5 (by omega) (by omega) (by omega)]; exact h.2.2.1
theorem zIL.vote2 (I : zI h S) (L : LI B S) (hn : n < 5) (M : sqMI h m) (hk : mki m = 0) (q : zGr (zno S n) m = true) (x : Int32) : zIL B (zN S n (nTi (nVo (zno S n) (mse m)) x)) := by
  refine ⟨?_, L.node (L.2.2.2.1 n hn)⟩
  have a := I.2.2.1 n hn
  obtain ⟨⟨m1, m2, m3⟩, m4, -⟩ := M
  obtain ⟨k1, k2, k3⟩ := m4 hk
  obtain ⟨q1, q2, q3⟩ := of_decide_eq_true q
  rw [q1] at k1 k2 k3
  rw [k1, k2] at q3
  rcases q2 with q2 | q2
  · obtain ⟨b1, b2, b3⟩ := sq_vote (N' := nTi (nVo (zno S n) (mse m)) x) I.2.1 a q2 k3 q3 rfl rfl rfl rfl rfl rfl rfl rfl
    exact ⟨_, I.grow b1 b2 b3⟩
  · have a1 : sqNI h n (nTi (nVo (zno S n) (mse m)) x) := sqNI.same a rfl q2.symm rfl ⟨Nat.le_refl _, a.2.2.2.1.1⟩ (Nat.le_refl _) (fun r => ⟨r, (a.2.2.2.2.1 r).2.2.2⟩) (fun r => ⟨r, (a.2.2.2.2.2 r).2.2.2⟩)
    exact ⟨h, I.node a1⟩
theorem zIL.vs (I : zI h S) (L : LI B S) (hn : n < 5) (M : sqMI h m) (hk : mki m = 1) (hre : mre m = n) (q1 : nro (zno S n) = 1) (q2 : mtm m = ntm (zno S n)) (q3 : mfl m = 1) : zIL B (zVs S n m) := by
  have a := I.2.2.1 n hn
  have hv := M.2.2.1 hk q3
  rw [hre, q2] at hv
  have a1 : sqNI h n (nVs (zno S n) (fun u => nvs (zno S n) u || u == mse m)) := sqNI.same a rfl rfl rfl ⟨Nat.le_refl _, a.2.2.2.1.1⟩ (Nat.le_refl _) (fun r => ⟨r, (a.2.2.2.2.1 r).2.2.2⟩) (fun r => ⟨r, fun u hu hw => by
    have hw' : (nvs (zno S n) u || u == mse m) = true := hw
    rw [Bool.or_eq_true] at hw'
    rcases hw' with w | w
    · exact (a.2.2.2.2.2 r).2.2.2 u hu w
    · rw [beq_iff_eq.mp w]; exact hv⟩)
  exact ⟨⟨h, I.node a1⟩, L.ndx hn rfl (N' := nVs (zno S n) (fun u => nvs (zno S n) u || u == mse m)) (L.2.2.2.1 n hn) (Nat.le_refl _)⟩
theorem zIL.nx2 (I : zI h S) (L : LI B S) (hn : n < 5) (M : sqMI h m) (q1 : nro (zno S n) = 2) : zIL B (zN S n (nNx (zno S n) (mse m) (max 1 (min (nnx (zno S n) (mse m) - 1) (mix m + 1))))) := by
  have a := I.2.2.1 n hn
  obtain ⟨l1, l2, l3, l4⟩ := a.2.2.2.2.1 q1
  have a1 : sqNI h n (nNx (zno S n) (mse m) (max 1 (min (nnx (zno S n) (mse m) - 1) (mix m + 1)))) := sqNI.same a rfl rfl rfl ⟨Nat.le_refl _, a.2.2.2.1.1⟩ (Nat.le_refl _) (fun r => ⟨r, fun u hu => by
    show nmt (zno S n) u ≤ _ ∧ 1 ≤ sqU1 (nnx (zno S n)) (mse m) _ u ∧ sqU1 (nnx (zno S n)) (mse m) _ u ≤ _
    by_cases hu2 : u = mse m
    · rw [hu2, sqU1_at]
      have := (l4 _ M.1.1)
      exact ⟨this.1, by omega, by omega⟩
    · rw [sqU1_ne hu2]; exact l4 u hu⟩) (fun r => ⟨r, (a.2.2.2.2.2 r).2.2.2⟩)
  exact ⟨⟨h, I.node a1⟩, L.ndx hn rfl (N' := nNx (zno S n) (mse m) (max 1 (min (nnx (zno S n) (mse m) - 1) (mix m + 1)))) (L.2.2.2.1 n hn) (Nat.le_refl B)⟩
theorem mX7_receive_ok (R : RA (μ 1 0) S) (I : zI h S) (L : LI B S) (hB : B + 2 < 800000000) (h1B : 1 ≤ B) (hG : RM (μ 4 0) (zg S) m) (M : sqMI h m) (LMm : LM B (zti S) m) : gOk (mX7_receive μ) (fun μ' => gF1 μ μ' ∧ RZ (B + 2) (μ' 1 0) (zRcv S m)) := by
  have hn := M.1.2.1
  have RZ0 : RZ B (μ 1 0) S := ⟨R, ⟨⟨h, I⟩, L⟩, by omega⟩
  have fin : gOk (mX7_receive μ) (fun μ' => gF1 μ μ' ∧ RA (μ' 1 0) (zRcv S m)) := by
    have hR := R.2.1 (mre m) hn
    have r0 := hR.1.1
    have r2 := hR.1.2.1
    have h1 := hG.2.2.1
    have g3 := hG.2.2.2.1
    unfold mX7_receive zRcv
    refine gOk_let (gOk_be (mX7_of_ok μ h1 (k := 0) rfl hn (by omega)) ?_)
    by_cases hu : nup (zno S (mre m)) = true
    · rw [hu, if_pos rfl] at r0
      rw [if_neg (show ¬ nup (zno S (mre m)) = false by rw [hu]; decide)]
      refine gOk_eq r0 (y := 0) (b := 0) rfl (fun q => absurd q (by decide)) (fun _ => ?_)
      refine gOk_be (mX7_of_ok μ h1 (k := 2) rfl hn (by omega)) ?_
      obtain ⟨I1, ht⟩ := I.bmp hn (mtm m)
      obtain ⟨L1, e1⟩ := L.bmp hn LMm.1
      have eg : zg (zBmp S (mre m) (mtm m)) = zg S := by unfold zBmp; split <;> rfl
      have L1m : LM B (zti (zBmp S (mre m) (mtm m))) m := by rw [e1]; exact LMm
      refine gOk_jq (γ := gM) (fun μ10 => gF1 μ μ10 ∧ RA (μ10 1 0) (zBmp S (mre m) (mtm m))) (fun μ10 h10 => ?_) (fun j11 hj11 => ?_)
      · generalize zBmp S (mre m) (mtm m) = S1 at *
        obtain ⟨F10, R10⟩ := h10
        have e4 : μ10 4 0 = μ 4 0 := F10 4 0 (by omega)
        have hG1 : RM (μ10 4 0) (zg S1) m := by rw [e4, eg]; exact hG
        have h11 : (μ 4 0 2).toInt = (mre m : Int) := h1
        have RZ1 : RZ B (μ10 1 0) S1 := ⟨R10, ⟨⟨h, I1⟩, L1⟩, by omega⟩
        have k0 := hG1.1
        refine gOk_eq k0 (y := 0) (b := 0) rfl (fun q => ?_) (fun q => ?_)
        · rw [if_pos (show mki m = 0 by omega)]
          exact gOk_bp (mX7_receiveRequest_ok RZ1 hn h11 hG1 M.1.1 (fun x c => zIL.vote2 I1 L1 hn M (by omega) c x)) (fun μ' h' => gOk_some ⟨F10.tr h'.1, h'.2⟩)
        · rw [if_neg (show ¬ mki m = 0 by omega)]
          refine gOk_eq k0 (y := 1) (b := 1) rfl (fun q => ?_) (fun q => ?_)
          · rw [if_pos (show mki m = 1 by omega)]
            exact gOk_bp (mX7_receiveReply_ok RZ1 (by omega) hn h11 hG1 M.1.1 (fun c1 c2 c3 => zIL.vs I1 L1 hn M (by omega) rfl c1 c2 c3)) (fun μ' h' => gOk_some ⟨F10.tr h'.1, h'.2⟩)
          · rw [if_neg (show ¬ mki m = 1 by omega)]
            refine gOk_eq k0 (y := 2) (b := 2) rfl (fun q => ?_) (fun q => ?_)
            · rw [if_neg (show ¬ mki m = 3 by omega)]
              exact gOk_bp (mX7_receiveFromLeader_ok R10 I1 L1 (by omega) hn h11 hG1 M L1m (Or.inl (by omega)) ht) (fun μ' h' => gOk_some ⟨F10.tr h'.1, h'.2⟩)
            · refine gOk_eq k0 (y := 3) (b := 3) rfl (fun q => ?_) (fun q => ?_)
              · rw [if_pos (show mki m = 3 by omega)]
                exact gOk_bp (mX7_receiveAnswer_ok RZ1 (by omega) hn h11 hG1 M.1.1 LMm.2.1 (fun c1 c2 c3 => ⟨⟨h, (I1.an1 hn M (by omega) c1 c2 c3 _).1⟩, L1.ndx hn rfl ((L1.2.2.2.1 _ hn).an (mse m) _ (mto m) L1m.2.2.2.2.2.1 M.1.1) (Nat.le_refl B)⟩) (fun c1 => zIL.nx2 I1 L1 hn M c1)) (fun μ' h' => gOk_some ⟨F10.tr h'.1, h'.2⟩)
              · rw [if_neg (show ¬ mki m = 3 by omega)]
                exact gOk_bp (mX7_receiveFromLeader_ok R10 I1 L1 (by omega) hn h11 hG1 M L1m (Or.inr (by have := M.1.2.2; omega)) ht) (fun μ' h' => gOk_some ⟨F10.tr h'.1, h'.2⟩)
      · refine gOk_le g3 r2 (fun w => hj11 _ ⟨gF1.rf, ?_⟩) (fun w => ?_)
        · unfold zBmp
          rw [if_neg (by omega)]; exact R
        · refine gOk_be (mX7_set_ok μ h1 (k := 2) rfl hn (by omega)) (gOk_be (mX7_set_ok _ h1 (k := 3) rfl hn (by omega)) (gOk_be (mX7_set_ok _ h1 (k := 1) rfl hn (by omega)) (hj11 _ ⟨gF1.w.tr (gF1.w.tr gF1.w), ?_⟩)))
          unfold zBmp
          rw [if_pos (by omega)]
          simp only [w3_10]
          refine R.nd RZ0.2.1 hn (fun k hk => by rw [upd_ne _ _ (by omega), upd_ne _ _ (by omega), upd_ne _ _ (by omega)]) ?_
          rw [rN_upd, rN_upd, rN_upd]
          exact hR.bm g3 rfl
    · rw [Bool.not_eq_true] at hu
      rw [hu, if_neg (by decide)] at r0
      rw [if_pos hu]
      refine gOk_eq r0 (y := 0) (b := 0) rfl (fun _ => ?_) (fun q => absurd rfl q)
      refine gOk_be (mX7_tally_ok μ (s := 2) rfl (by omega)) (gOk_some ⟨gF1.w, ?_⟩)
      rw [w3_10]
      exact R.stat RZ0.2.1 (by omega) (by omega)
  exact gOk_imp fin (fun μ' h' => ⟨h'.1, h'.2, ⟨I.rcv M, (L.rcv I M LMm h1B).1⟩, by omega⟩)
end SqRef18
