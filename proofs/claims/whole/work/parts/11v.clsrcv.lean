/-! The class: receiving. -/
/-- what is left to do leads to S2 -/
def fnP (B q n : Nat) (S2 : sqSt) (p : Int32 × gM) : Prop :=
  (p.1 = 0 ∧ RB p.2 q S2) ∨ (p.1 = 1 ∧ ∃ S', RY B p.2 q S' ∧ nro (zno S' n) = 1 ∧ sqQb (zc S' (zno S' n)) (nvs (zno S' n)) = true ∧ zWin S' n = S2) ∨ (p.1 = 2 ∧ ∃ S', RY B p.2 q S' ∧ nro (zno S' n) = 2 ∧ zCom S' n = S2) ∨ (p.1 = 3 ∧ ∃ S', RY B p.2 q S' ∧ nro (zno S' n) = 2 ∧ zAll S' n = S2)
section SqCly
variable {μ μ' μ1 : gM} {n g b k i nc B t t1 s q kk : Nat} {l : List sqE} {a1 a2 a3 a4 : Int32} {e : sqE} {m : sqMs} {S S' : sqSt} {N : sqN} {h : sqH}
theorem BN.tv (h : BN μ k n g N) {x : Int32} {T : Nat} (hx : x.toInt = (T : Int)) : BN (w3 (w3 μ 11 k 7 x) 11 k 8 (-1)) k n g (nup N, nro N, T, none, ncm N, nti N, nvs N, nbs N, nlg N, nnx N, nmt N, nec N) := by
  obtain ⟨⟨h0, h5, h7, h8, h9, hl, hf⟩, h6, h10, h11, h13⟩ := h
  have o : ∀ f j, ¬ (f = 11 ∧ (j = 7 ∨ j = 8)) → w3 (w3 μ 11 k 7 x) 11 k 8 (-1) f k j = μ f k j := fun f j z => by rw [w3_o _ _ (by omega), w3_o _ _ (by omega)]
  refine ⟨⟨by rw [o 11 0 (by omega)]; exact h0, by rw [o 11 5 (by omega)]; exact h5, by rw [w3_o _ _ (by omega), w3_at]; exact hx, by rw [w3_at]; exact ti_m1, by rw [o 11 9 (by omega)]; exact h9, hl.cg (fun j _ _ => o 12 j (by omega)) (fun f j _ _ _ => o f j (by omega)), ?_⟩, by rw [o 11 6 (by omega)]; exact h6, by rw [o 11 10 (by omega)]; exact h10, fun r => by rw [o 11 11 (by omega)]; exact h11 r, fun r u hu => ?_⟩
  · unfold CF
    rw [o 12 9 (by omega), o 12 10 (by omega), o 12 11 (by omega)]
    exact hf
  · rw [o 13 u (by omega), o 14 u (by omega), o 15 u (by omega)]
    exact h13 r u hu
theorem mX0_receive_ok (R : RB μ q S) (I : zI h S) (L : LI B S) (hB : B + 2 < 800000000) (h1B : 1 ≤ B) (hq : q < nc) (hnc : nc ≤ 2) (hm : BM μ t (zg S) m) (ht : 42 * q ≤ t ∧ t < 42 * q + 42) (hd : t ≠ nwP μ q 40) (M : sqMI h m) (LMm : LM B (zti S) m) : gOk (mX0_receive nc q (5 * q + mre m) t μ) (fun p => gFr (rbP q) μ p.2 ∧ fnP B q (mre m) (zRcv S m) p) := by
  have hn := M.1.2.1
  have hse := M.1.1
  have hb := R.2.1 (mre m) hn
  have r0 := hb.1.2.1
  unfold mX0_receive zRcv
  by_cases hu : nup (zno S (mre m)) = true
  · rw [hu, if_pos rfl] at r0
    refine gOk_eq r0 (y := 0) (b := 0) rfl (fun z => absurd z (by decide)) (fun _ => ?_)
    rw [if_neg (by rw [hu]; decide)]
    obtain ⟨I1, hT⟩ := I.bmp hn (mtm m)
    obtain ⟨L1, e1⟩ := L.bmp hn LMm.1
    refine gOk_jq (γ := gM) (fun μ2 => gFr (apP q (mre m)) μ μ2 ∧ RB μ2 q (zBmp S (mre m) (mtm m))) (fun μ2 hc => ?_) (fun j3 hj3 => ?_)
    · obtain ⟨F2, R2⟩ := hc
      have eg : zg (zBmp S (mre m) (mtm m)) = zg S := by unfold zBmp; split <;> rfl
      generalize zBmp S (mre m) (mtm m) = S1 at *
      have L1m : LM B (zti S1) m := by rw [e1]; exact LMm
      have hm2 : BM μ2 t (zg S1) m := by rw [eg]; exact hm.ap F2
      have hd2 : t ≠ nwP μ2 q 40 := by rw [nwP_ap F2]; exact hd
      have RY1 : RY B μ2 q S1 := ⟨R2, ⟨⟨h, I1⟩, L1⟩, by omega⟩
      have FF := F2.up (apP_rb hn)
      have ldr := fun hk => mX0_ldr_ok R2 I1 L1 (show B < 800000000 by omega) hq hnc hn hm2 ht hd2 M L1m hk hT
      have k0 := hm2.1
      refine gOk_eq k0 (y := 0) (b := 0) rfl (fun w => ?_) (fun w => ?_)
      · have hk : mki m = 0 := by omega
        rw [if_pos hk]
        exact gOk_bd (mX0_takeRequest_ok RY1 hq hnc hn hm2 ht hk hse) (fun r μ7 hp => gOk_some ⟨FF.tr hp.2.1, Or.inl ⟨hp.1, hp.2.2⟩⟩)
      · rw [if_neg (show ¬ mki m = 0 by omega)]
        refine gOk_eq k0 (y := 1) (b := 1) rfl (fun w => ?_) (fun w => ?_)
        · have hk : mki m = 1 := by omega
          rw [if_pos hk]
          refine gOk_bd (mX0_takeReply_ok RY1 hn hm2 hk hse (LMm.2.2.2.2.2.2.2.2.2.1 (Or.inl hk))) (fun r μ7 hp => gOk_some ⟨FF.tr (hp.1.up (bnP_rb hn)), ?_⟩)
          unfold zRep
          by_cases c : nro (zno S1 (mre m)) = 1 ∧ mtm m = ntm (zno S1 (mre m)) ∧ mfl m = 1
          · rw [if_pos c]
            obtain ⟨p1, p2⟩ := hp.2.1 c
            by_cases v : sqQb (zc S1 (zno S1 (mre m))) (fun u => nvs (zno S1 (mre m)) u || u == mse m) = true
            · rw [if_pos v] at p2
              rw [if_pos v]
              have eV : zno (zVs S1 (mre m) m) (mre m) = nVs (zno S1 (mre m)) (fun u => nvs (zno S1 (mre m)) u || u == mse m) := by unfold zVs; exact zN_at _ _ _
              refine Or.inr (Or.inl ⟨p2, zVs S1 (mre m) m, ⟨p1, zIL.vs I1 L1 hn M hk rfl c.1 c.2.1 c.2.2, by omega⟩, by rw [eV]; exact c.1, by rw [eV]; exact v, rfl⟩)
            · rw [if_neg v] at p2
              rw [if_neg v]
              exact Or.inl ⟨p2, p1⟩
          · rw [if_neg c]
            have p := hp.2.2 c
            have p2 : μ7 = μ2 := congrArg Prod.snd p
            exact Or.inl ⟨congrArg Prod.fst p, by rw [p2]; exact R2⟩
        · rw [if_neg (show ¬ mki m = 1 by omega)]
          refine gOk_eq k0 (y := 2) (b := 2) rfl (fun w => ?_) (fun w => ?_)
          · rw [if_neg (show ¬ mki m = 3 by omega)]
            exact gOk_imp (ldr (Or.inl (by omega))) (fun p hp => ⟨FF.tr hp.2.1, Or.inl ⟨hp.1, hp.2.2⟩⟩)
          · refine gOk_eq k0 (y := 3) (b := 3) rfl (fun w => ?_) (fun w => ?_)
            · have hk : mki m = 3 := by omega
              rw [if_pos hk]
              refine gOk_bd (mX0_takeAnswer_ok RY1 hq hnc hn hm2 hk hse (LMm.2.2.2.2.2.2.2.2.2.1 (Or.inr hk)) (by have := LMm.2.1; omega)) (fun r μ7 hp => gOk_some ⟨FF.tr hp.1, ?_⟩)
              by_cases c : nro (zno S1 (mre m)) = 2 ∧ mtm m = ntm (zno S1 (mre m))
              · obtain ⟨p1, p2⟩ := hp.2.1 c
                by_cases v : mfl m = 1
                · obtain ⟨p3, p4⟩ := p1 v
                  unfold zAns
                  rw [if_pos c, if_pos v]
                  refine Or.inr (Or.inr (Or.inl ⟨p3, _, ⟨p4, ⟨⟨h, (I1.an1 hn M hk c.1 c.2 v _).1⟩, L1.ndx hn rfl ((L1.2.2.2.1 _ hn).an (mse m) _ (mto m) L1m.2.2.2.2.2.1 hse) (Nat.le_refl B)⟩, by omega⟩, by rw [zN_at]; exact c.1, rfl⟩))
                · obtain ⟨p3, p4⟩ := p2 v
                  exact Or.inl ⟨p3, p4⟩
              · have p := hp.2.2 c
                have p2 : μ7 = μ2 := congrArg Prod.snd p
                unfold zAns
                rw [if_neg c]
                exact Or.inl ⟨congrArg Prod.fst p, by rw [p2]; exact R2⟩
            · rw [if_neg (show ¬ mki m = 3 by omega)]
              exact gOk_imp (ldr (Or.inr (by have := M.1.2.2; omega))) (fun p hp => ⟨FF.tr hp.2.1, Or.inl ⟨hp.1, hp.2.2⟩⟩)
    · refine gOk_le hm.2.2.2.1 hb.1.2.2.1 (fun w => hj3 _ ⟨gFr.rf, ?_⟩) (fun w => ?_)
      · unfold zBmp
        rw [if_neg (by omega)]; exact R
      · have b48 := hb.tv hm.2.2.2.1
        refine gOk_lee (fun μ46 h46 => gOk_lee (fun μ48 h48 => ?_))
        rw [← h46, ← h48] at b48
        have F48 : gFr (bnP (5 * q + mre m)) μ μ48 := by
          rw [h48, h46]
          exact (gFr.w ⟨rfl, by omega⟩).tr (gFr.w ⟨rfl, by omega⟩)
        refine gOk_bp (mX4_follow_ok b48) (fun μ51 h51 => hj3 _ ⟨(F48.tr (h51.1.up ldP_bn)).up bnP_ap, ?_⟩)
        unfold zBmp
        rw [if_pos (by omega)]
        exact R.node hn (F48.tr (h51.1.up ldP_bn)) h51.2
  · rw [Bool.not_eq_true] at hu
    rw [hu, if_neg (by decide)] at r0
    rw [if_pos hu]
    refine gOk_eq r0 (y := 0) (b := 0) rfl (fun _ => ?_) (fun z => absurd rfl z)
    have W := R.1.st (c := 2) (Or.inr rfl) 1
    refine gOk_lee (fun μ52 h52 => gOk_some ⟨by rw [h52]; exact (gFr.w (P := npP q) ⟨rfl, by omega⟩).up npP_rb, Or.inl ⟨rfl, ?_⟩⟩)
    have h52' : μ52 = w3 μ 9 q (5 + 2) (μ 9 q (5 + 2) + 1) := h52
    rw [← h52'] at W
    have o52 : ∀ f i j, f ≤ 8 ∨ 11 ≤ f ∧ f ≤ 18 → μ52 f i j = μ f i j := fun f i j z => by rw [h52', w3_o _ _ (by omega)]
    exact R.net W o52 rfl rfl rfl (fun c hc => sqU1_ne (by omega)) rfl rfl
end SqCly
