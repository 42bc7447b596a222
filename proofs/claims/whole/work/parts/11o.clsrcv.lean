/-! The class: votes and answers that come in. -/
section SqClv
variable {μ μ' μ1 : gM} {n g b k i nc B t t1 s q kk : Nat} {l : List sqE} {a1 a2 a3 a4 : Int32} {e : sqE} {m : sqMs} {S S' : sqSt} {N : sqN}
theorem BN.vs (h : BN μ k n g N) (hr : nro N = 1) {W : Nat → Bool} {x : Int32} (hx : x.toInt = (sqMk W : Int)) : BN (w3 μ 11 k 11 x) k n g (nVs N W) := by
  obtain ⟨h0, h6, h10, h11, h13⟩ := h
  refine ⟨h0.cg (fun f j z => w3_o _ _ (by omega)), by rw [w3_o _ _ (by omega)]; exact h6, by rw [w3_o _ _ (by omega)]; exact h10, fun r => by rw [w3_at]; exact hx, fun r => absurd (hr.symm.trans r) (by decide)⟩
theorem mX0_takeReply_ok (h : RY B μ q S) (hn : n < 5) (hm : BM μ t g m) (hk : mki m = 1) (hse : mse m < 5) (hf : mfl m ≤ 1) : gOk (mX0_takeReply nc q (5 * q + n) t μ) (fun p => gFr (bnP (5 * q + n)) μ p.2 ∧ (nro (zno S n) = 1 ∧ mtm m = ntm (zno S n) ∧ mfl m = 1 → RB p.2 q (zVs S n m) ∧ p.1 = if sqQb (zc S (zno S n)) (fun u => nvs (zno S n) u || u == mse m) = true then 1 else 0) ∧ (¬ (nro (zno S n) = 1 ∧ mtm m = ntm (zno S n) ∧ mfl m = 1) → p = (0, μ))) := by
  have hb := h.1.2.1 n hn
  have c12 := hm.2.2.2.2.2.2.2.2.2.1 (Or.inl hk)
  unfold mX0_takeReply
  refine gOk_eq hb.2.1 (y := 1) (b := 1) rfl (fun q1 => ?_) (fun q1 => gOk_some ⟨gFr.rf, fun z => absurd z.1 (by omega), fun _ => rfl⟩)
  refine gOk_eq hm.2.2.2.1 hb.1.2.2.1 (fun q2 => ?_) (fun q2 => gOk_some ⟨gFr.rf, fun z => absurd z.2.1 (by omega), fun _ => rfl⟩)
  refine gOk_eq c12 (y := 0) (b := 0) rfl (fun q3 => gOk_some ⟨gFr.rf, fun z => absurd z.2.2 (by omega), fun _ => rfl⟩) (fun q3 => ?_)
  have hr : nro (zno S n) = 1 := by omega
  have hC : nro (zno S n) = 1 ∧ mtm m = ntm (zno S n) ∧ mfl m = 1 := ⟨hr, by omega, by omega⟩
  have ev : (μ 11 (5 * q + n) 11) ||| (1 <<< ((μ 19 t 5) &&& 31)) = Int32.ofNat (sqMk (fun u => nvs (zno S n) u || u == mse m)) := by
    rw [ti_of (hb.2.2.2.1 hr), ti_of hm.2.1, sqMk_on _ _ hse]
    refine congrArg Int32.ofNat (sqMk_ext (fun v _ => ?_))
    show (if v = mse m then true else nvs (zno S n) v) = (nvs (zno S n) v || v == mse m)
    by_cases z : v = mse m
    · rw [if_pos z, beq_iff_eq.mpr z, Bool.or_true]
    · rw [if_neg z, beq_eq_false_iff_ne.mpr z, Bool.or_false]
  rw [ev]
  refine gOk_lee (fun μ4 h4 => ?_)
  have F : gFr (bnP (5 * q + n)) μ μ4 := by rw [h4]; exact gFr.w ⟨rfl, by omega⟩
  have b4 : BN μ4 (5 * q + n) n (zg S) (nVs (zno S n) (fun u => nvs (zno S n) u || u == mse m)) := by rw [h4]; exact hb.vs hr (sqMk_i32 _)
  have r4 : RB μ4 q (zVs S n m) := h.1.node hn F b4
  refine gOk_bp (mX1_isQuorum_ok b4.1.2.2.2.2.2.2 (h.G hn) (b4.2.2.2.1 hr)) (fun r7 h7 => ?_)
  have h7 : r7 = if sqQb (zc S (zno S n)) (fun u => nvs (zno S n) u || u == mse m) = true then 1 else 0 := h7
  by_cases w : sqQb (zc S (zno S n)) (fun u => nvs (zno S n) u || u == mse m) = true
  · rw [if_pos w] at h7
    refine gOk_if (fun z => absurd (h7.symm.trans z) (by decide)) (fun _ => gOk_some ⟨F, fun _ => ⟨r4, (if_pos w).symm⟩, fun z => absurd hC z⟩)
  · rw [if_neg w] at h7
    refine gOk_if (fun _ => gOk_some ⟨F, fun _ => ⟨r4, (if_neg w).symm⟩, fun z => absurd hC z⟩) (fun z => absurd h7 z)
end SqClv
