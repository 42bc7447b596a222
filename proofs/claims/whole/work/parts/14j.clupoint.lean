/-! what a new cluster points to -/
section SqJ1
variable {nc q : Nat} {μ : gM}
theorem clE_clu0 (hz6 : μ 6 q = fun _ => 0) (hz7 : μ 7 q = fun _ => 0) : clE gkd_C (rhK nc) (cluE q 0) (cluM μ q 0) := by
  have c0 : clE gkd_C (rhK nc) [(6, q)] μ := fun f i9 k z hm hr h9 => by
    obtain ⟨rfl, rfl⟩ := Prod.mk.inj (List.mem_singleton.mp hm)
    rw [rhK_no (by rw [hz6]; rfl)] at h9
    cases h9
  have c1 : clE gkd_C (rhK nc) ([(6, q)] ++ [(7, q)]) μ := clE_new c0 (fun k _ => rhK_no (by rw [hz7]; rfl))
  exact clE_put (f := 6) (i := q) (k0 := 0) (v := 1) (z := (7, q)) c1 cluE_7 (fun j => rhK_put (by decide) (fun r r' k h => gh6) (fun r _ => rfl) _ j)
theorem clE_clu (hq : q < 2) (hz6 : μ 6 q = fun _ => 0) (hz7 : μ 7 q = fun _ => 0) (hz : ∀ f i, 11 ≤ f → f ≤ 18 → 5 * q ≤ i → μ f i = fun _ => 0) : ∀ k, k ≤ 5 → clE gkd_C (rhK nc) (cluE q k) (cluM μ q k)
  | 0, _ => clE_clu0 hz6 hz7
  | k + 1, hk => by
    have zR : cluM μ q k 11 (5 * q + k) = fun _ => 0 := (cluM_o (by omega) (by omega) k (fun _ => Nat.le_refl _)).trans (hz 11 _ (by omega) (by omega) (by omega))
    have c1 := clE_new (f0 := 11) (i0 := 5 * q + k) (clE_clu hq hz6 hz7 hz k (by omega)) (fun k _ => rhK_no (by rw [zR]; rfl))
    have c2 := clE_ap c1 (List.mem_append_right _ List.mem_cons_self) (clE_X4 (nc := nc) (i := 5 * q + k) (μ := cluM μ q k) (x := nI k)) (fun f i hm hn => repM_ne hn (fun z => by
      rw [z.1, z.2] at hm
      rcases List.mem_append.mp hm with hm | hm
      · exact cluE_no (Nat.le_refl _) (by decide) hm
      · have := (Prod.mk.inj (List.mem_singleton.mp hm)).1; omega))
    have c3 := clE_put (f := 7) (i := q) (k0 := k) (v := 1) (z := (11, 5 * q + k)) c2 (List.mem_append_left _ (List.mem_append_right _ List.mem_cons_self)) (fun j => rhK_put (by decide) (fun r r' k h => gn7) (fun r _ => gn7e) _ j)
    exact c3
theorem clE_X0 (hq : q < 2) (hz6 : μ 6 q = fun _ => 0) (hz7 : μ 7 q = fun _ => 0) (hz8 : μ 8 q = fun _ => 0) (hz9 : μ 9 q = fun _ => 0) (hz10 : μ 10 q = fun _ => -1) (hz : ∀ f i, 11 ≤ f → f ≤ 18 → 5 * q ≤ i → μ f i = fun _ => 0) (hzm : ∀ f i, 19 ≤ f → f ≤ 22 → 42 * q ≤ i → μ f i = fun _ => 0) : clE gkd_C (rhK nc) ((6, q) :: cluT2 q) (cluM2 μ q) := by
  have zN : ∀ f i, (f = 9 ∨ f = 10 ∨ 19 ≤ f) → cluM μ q 5 f i = μ f i := fun f i h => cluM_o (by omega) (by omega) 5 (fun z => by omega)
  have z9 : cluM μ q 5 9 q = fun _ => 0 := (zN 9 q (by omega)).trans hz9
  have z10 : cluM μ q 5 10 q = fun _ => -1 := (zN 10 q (by omega)).trans hz10
  have zm : ∀ f i, 19 ≤ f → f ≤ 22 → 42 * q ≤ i → cluM μ q 5 f i = fun _ => 0 := fun f i h1 h2 h3 => (zN f i (by omega)).trans (hzm f i h1 h2 h3)
  have c1 := clE_new (f0 := 9) (i0 := q) (clE_clu (nc := nc) hq hz6 hz7 hz 5 (Nat.le_refl _)) (fun k _ => rhK_no (by rw [z9]; rfl))
  have c2 := clE_ap c1 (List.mem_append_right _ List.mem_cons_self) (clE_X3 (nc := nc) hq z9 z10 zm) (fun f i hm hn => netM2_no (fun z => by
    rcases z with z | z
    · exact hn z
    · have h5 := netT2_in z
      rcases List.mem_append.mp hm with hm | hm
      · rcases List.mem_cons.mp hm with hm | hm
        · have := (Prod.mk.inj hm).1; omega
        · rcases cluT_in 5 hm with hm | hm <;> omega
      · have := (Prod.mk.inj (List.mem_singleton.mp hm)).1; omega))
  have c3 := clE_put (f := 6) (i := q) (k0 := 1) (v := 1) (z := (9, q)) c2 (List.mem_append_left _ (List.mem_append_right _ List.mem_cons_self)) (fun j => rhK_put (by decide) (fun r r' k h => gh6) (fun r _ => rfl) _ j)
  have c4 := clE_new (f0 := 8) (i0 := q) (show clE gkd_C (rhK nc) ((6, q) :: cluT1 q) (cluM1 μ q) from c3) (fun k hk => (show False from hk).elim)
  have c5 := clE_put (f := 6) (i := q) (k0 := 2) (v := 1) (z := (8, q)) c4 (List.mem_append_right _ List.mem_cons_self) (fun j => rhK_put (by decide) (fun r r' k h => gh6) (fun r _ => rfl) _ j)
  exact c5
theorem netM_10 : ∀ k j, j < k → netM μ q k 10 q j = nI (42 * q + j)
  | 0, j, h => absurd h (by omega)
  | k + 1, j, h => by
    show w3 (msgM (netM μ q k) (42 * q + k)) 10 q k _ 10 q j = _
    by_cases e : j = k
    · rw [e]
      unfold w3
      rw [if_pos ⟨rfl, rfl, rfl⟩]
    · unfold w3
      rw [if_neg (fun z => e z.2.2), msgM_ne (by omega), netM_10 k j (by omega)]
theorem netM2_10 {j : Nat} (h : j < 40) : netM2 μ q 10 q j = nI (42 * q + j) := by
  unfold netM2 netM1
  rw [w3_ne (by omega), msgM_ne (by omega), w3_ne (by omega), msgM_ne (by omega), netM_10 40 j h]
theorem netM2_91 : netM2 μ q 9 q 1 = nI (42 * q + 40) := by
  unfold netM2
  unfold w3
  rw [if_neg (by omega), msgM_ne (by omega)]
  unfold netM1 w3
  rw [if_pos ⟨rfl, rfl, rfl⟩]
theorem netM2_92 : netM2 μ q 9 q 2 = nI (42 * q + 41) := by
  unfold netM2 w3
  rw [if_pos ⟨rfl, rfl, rfl⟩]
theorem netW (hq : q < 2) : NWq (netM2 μ q) q := by
  have h : ∀ i, i < 42 → nwP (netM2 μ q) q i = 42 * q + i := fun i hi => by
    by_cases h1 : i < 40
    · rw [nwP_lt h1, netM2_10 h1, nI_clamp (by omega)]
    · by_cases h2 : i = 40
      · rw [h2, nwP_40, netM2_91, nI_clamp (by omega)]
      · rw [show i = 41 from by omega, nwP_41, netM2_92, nI_clamp (by omega)]
  exact ⟨fun i hi => by rw [h i hi]; omega, fun i j hi hj e => by rw [h i hi, h j hj] at e; omega⟩
theorem cluM_id : ∀ k n, n < k → cluM μ q k 11 (5 * q + n) 0 = nI n
  | 0, n, h => absurd h (by omega)
  | k + 1, n, h => by
    show w3 (repM (cluM μ q k) (5 * q + k) _) 7 q k _ 11 (5 * q + n) 0 = _
    rw [w3_ne (by omega)]
    by_cases e : n = k
    · rw [e, repM_id]
    · rw [repM_ne (by omega) (by omega), cluM_id k n (by omega)]
theorem cluW (hq : q < 2) : RW (cluM2 μ q) q := by
  have o : ∀ f i, f ≠ 6 → cluM2 μ q f i = netM2 (cluM μ q 5) q f i := fun f i h => by
    unfold cluM2 cluM1
    rw [w3_ne (by omega), w3_ne (by omega)]
  refine ⟨NWq.cg (netW (μ := cluM μ q 5) hq) (fun j _ => by rw [o 9 q (by decide)]) (fun j => by rw [o 10 q (by decide)]), fun n hn => ?_⟩
  rw [o 11 _ (by decide), netM2_no (fun z => by
    rcases z with z | z
    · omega
    · have := netT2_in z; omega), cluM_id 5 n hn, nI_toInt (by omega)]
end SqJ1
