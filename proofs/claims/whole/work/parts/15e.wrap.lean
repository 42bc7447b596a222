/-! the law's methods that call and catch, the rest -/
theorem cwL_setLink : Cond.codeWith yL_setLink cL_setLink 6 (some .int) [(0, 19, 22, 26), (0, 19, 26, 13)] ∈ BIG := bigT4 (i := 44) rfl rfl
theorem stL_setLink : Cond.static yL_setLink ∈ BIG := bigT4 (i := 43) rfl rfl
theorem wwL_setLink : wCw yL_setLink cL_setLink 6 [(0, 19, 22, 26), (0, 19, 26, 13)] 5 := ⟨⟨stL_setLink, iniL, cwL_setLink⟩, by decide +kernel⟩
theorem imX6_setLink : Cond.instanceMethod yX6_setLink ∈ BIG := bigT4 (i := 70) rfl rfl
theorem seX6_setLink : Cond.selects yX6_setLink.cls yX6_setLink yX6_setLink ∈ BIG := bigT4 (i := 71) rfl rfl
theorem cdX6_setLink : Cond.code yX6_setLink cX6_setLink 5 (some .boolean) ∈ BIG := bigT4 (i := 72) rfl rfl
theorem wcX6_setLink : wCv yX6_setLink cX6_setLink 5 (some .boolean) 3 := ⟨⟨imX6_setLink, seX6_setLink, iniX6, cdX6_setLink⟩, by decide +kernel⟩
theorem wlL_22 : Cond.methodLink RL 22 yX6_setLink ∈ BIG := bigT4 (i := 69) rfl rfl
theorem cwL_share : Cond.codeWith yL_share cL_share 4 (some .int) [(0, 8, 11, 26), (0, 8, 14, 85)] ∈ BIG := bigT5 (i := 91) rfl rfl
theorem stL_share : Cond.static yL_share ∈ BIG := bigT5 (i := 90) rfl rfl
theorem wwL_share : wCw yL_share cL_share 4 [(0, 8, 11, 26), (0, 8, 14, 85)] 3 := ⟨⟨stL_share, iniL, cwL_share⟩, by decide +kernel⟩
theorem imX6_share : Cond.instanceMethod yX6_share ∈ BIG := bigT5 (i := 107) rfl rfl
theorem seX6_share : Cond.selects yX6_share.cls yX6_share yX6_share ∈ BIG := bigT5 (i := 108) rfl rfl
theorem cdX6_share : Cond.code yX6_share cX6_share 7 (some .double) ∈ BIG := bigT5 (i := 109) rfl rfl
theorem wcX6_share : wCv yX6_share cX6_share 7 (some .double) 1 := ⟨⟨imX6_share, seX6_share, iniX6, cdX6_share⟩, by decide +kernel⟩
theorem wlL_81 : Cond.methodLink RL 81 yX6_share ∈ BIG := bigT5 (i := 106) rfl rfl
theorem clL_85 : Cond.classLink RL 85 "java/lang/ArithmeticException" ∈ BIG := bigT5 (i := 92) rfl rfl
theorem cwL_feed : Cond.codeWith yL_feed cL_feed 4 (some .int) [(0, 9, 12, 31)] ∈ BIG := bigT5 (i := 119) rfl rfl
theorem stL_feed : Cond.static yL_feed ∈ BIG := bigT5 (i := 118) rfl rfl
theorem wwL_feed : wCw yL_feed cL_feed 4 [(0, 9, 12, 31)] 3 := ⟨⟨stL_feed, iniL, cwL_feed⟩, by decide +kernel⟩
theorem imX6_feed : Cond.instanceMethod yX6_feed ∈ BIG := bigT5 (i := 121) rfl rfl
theorem seX6_feed : Cond.selects yX6_feed.cls yX6_feed yX6_feed ∈ BIG := bigT5 (i := 122) rfl rfl
theorem cdX6_feed : Cond.code yX6_feed cX6_feed 2 (some .int) ∈ BIG := bigT5 (i := 123) rfl rfl
theorem wcX6_feed : wCv yX6_feed cX6_feed 2 (some .int) 1 := ⟨⟨imX6_feed, seX6_feed, iniX6, cdX6_feed⟩, by decide +kernel⟩
theorem wlL_87 : Cond.methodLink RL 87 yX6_feed ∈ BIG := bigT5 (i := 120) rfl rfl
theorem cwL_perform : Cond.codeWith yL_perform cL_perform 3 (some .int) [(0, 8, 11, 39)] ∈ BIG := bigT5 (i := 135) rfl rfl
theorem stL_perform : Cond.static yL_perform ∈ BIG := bigT5 (i := 134) rfl rfl
theorem wwL_perform : wCw yL_perform cL_perform 3 [(0, 8, 11, 39)] 2 := ⟨⟨stL_perform, iniL, cwL_perform⟩, by decide +kernel⟩
theorem imX6_perform : Cond.instanceMethod yX6_perform ∈ BIG := bigT5 (i := 137) rfl rfl
theorem seX6_perform : Cond.selects yX6_perform.cls yX6_perform yX6_perform ∈ BIG := bigT5 (i := 138) rfl rfl
theorem cdX6_perform : Cond.code yX6_perform cX6_perform 3 (some .int) ∈ BIG := bigT5 (i := 139) rfl rfl
theorem wcX6_perform : wCv yX6_perform cX6_perform 3 (some .int) 0 := ⟨⟨imX6_perform, seX6_perform, iniX6, cdX6_perform⟩, by decide +kernel⟩
theorem wlL_91 : Cond.methodLink RL 91 yX6_perform ∈ BIG := bigT5 (i := 136) rfl rfl
theorem cwL_write : Cond.codeWith yL_write cL_write 4 (some .int) [(0, 9, 12, 26)] ∈ BIG := bigT5 (i := 233) rfl rfl
theorem stL_write : Cond.static yL_write ∈ BIG := bigT5 (i := 232) rfl rfl
theorem wwL_write : wCw yL_write cL_write 4 [(0, 9, 12, 26)] 3 := ⟨⟨stL_write, iniL, cwL_write⟩, by decide +kernel⟩
theorem imX6_write : Cond.instanceMethod yX6_write ∈ BIG := bigT5 (i := 235) rfl rfl
theorem seX6_write : Cond.selects yX6_write.cls yX6_write yX6_write ∈ BIG := bigT5 (i := 236) rfl rfl
theorem cdX6_write : Cond.code yX6_write cX6_write 5 (some .int) ∈ BIG := bigT5 (i := 237) rfl rfl
theorem wcX6_write : wCv yX6_write cX6_write 5 (some .int) 1 := ⟨⟨imX6_write, seX6_write, iniX6, cdX6_write⟩, by decide +kernel⟩
theorem wlL_94 : Cond.methodLink RL 94 yX6_write ∈ BIG := bigT5 (i := 234) rfl rfl
theorem cwL_text : Cond.codeWith yL_text cL_text 4 (some .int) [(0, 9, 12, 26)] ∈ BIG := bigT7 (i := 8) rfl rfl
theorem stL_text : Cond.static yL_text ∈ BIG := bigT7 (i := 7) rfl rfl
theorem wwL_text : wCw yL_text cL_text 4 [(0, 9, 12, 26)] 3 := ⟨⟨stL_text, iniL, cwL_text⟩, by decide +kernel⟩
theorem imX6_text : Cond.instanceMethod yX6_text ∈ BIG := bigT7 (i := 10) rfl rfl
theorem seX6_text : Cond.selects yX6_text.cls yX6_text yX6_text ∈ BIG := bigT7 (i := 11) rfl rfl
theorem cdX6_text : Cond.code yX6_text cX6_text 2 (some .char) ∈ BIG := bigT7 (i := 12) rfl rfl
theorem wcX6_text : wCv yX6_text cX6_text 2 (some .char) 1 := ⟨⟨imX6_text, seX6_text, iniX6, cdX6_text⟩, by decide +kernel⟩
theorem wlL_97 : Cond.methodLink RL 97 yX6_text ∈ BIG := bigT7 (i := 9) rfl rfl
theorem cwL_restore : Cond.codeWith yL_restore cL_restore 3 (some .int) [(0, 8, 11, 31)] ∈ BIG := bigT7 (i := 26) rfl rfl
theorem stL_restore : Cond.static yL_restore ∈ BIG := bigT7 (i := 25) rfl rfl
theorem wwL_restore : wCw yL_restore cL_restore 3 [(0, 8, 11, 31)] 2 := ⟨⟨stL_restore, iniL, cwL_restore⟩, by decide +kernel⟩
theorem imX6_restore : Cond.instanceMethod yX6_restore ∈ BIG := bigT7 (i := 28) rfl rfl
theorem seX6_restore : Cond.selects yX6_restore.cls yX6_restore yX6_restore ∈ BIG := bigT7 (i := 29) rfl rfl
theorem cdX6_restore : Cond.code yX6_restore cX6_restore 1 (some .int) ∈ BIG := bigT7 (i := 30) rfl rfl
theorem wcX6_restore : wCv yX6_restore cX6_restore 1 (some .int) 0 := ⟨⟨imX6_restore, seX6_restore, iniX6, cdX6_restore⟩, by decide +kernel⟩
theorem wlL_101 : Cond.methodLink RL 101 yX6_restore ∈ BIG := bigT7 (i := 27) rfl rfl
theorem zLink_1 {S : sqSt} {a b : Int} {x : Bool} {r : Int32} (h : r.toInt = (zaLink S a b x).2.1) (hr : ¬ r = 0) : (1 : Int32).toInt = (zaLink S a b x).2.1 := by
  have h2 : (zaLink S a b x).2.1 = 0 ∨ (zaLink S a b x).2.1 = 1 := by
    unfold zaLink
    split
    · exact Or.inl rfl
    · split
      · exact Or.inl rfl
      · show (if zcu S a.toNat b.toNat then (1 : Int) else 0) = 0 ∨ (if zcu S a.toNat b.toNat then (1 : Int) else 0) = 1
        split
        · exact Or.inr rfl
        · exact Or.inl rfl
  rcases h2 with h2 | h2
  · rw [h2] at h
    exact absurd (Int32.toInt_inj.mp (h.trans (by decide : (0 : Int) = (0 : Int32).toInt))) hr
  · rw [h2]; rfl
/-- a letter is fed -/
def zFeed (β : Nat → Int32) (len : Nat) (x : Int32) : Nat × Int × (Nat → Int32) × Nat := if len < 80 then (0, ((len + 1 : Nat) : Int), upd β len x, len + 1) else (1, 0, β, len)
def lPoD (a0 code : Nat) (val : UInt64) (S : sqSt) (sv : Option sqSt) (β : Nat → Int32) (len : Nat) (T : List Nat) : lPo := fun o E1 kd1 ad1 rh1 μ1 _ e8 => o = some (.int (nI code)) ∧ cSt a0 S sv β len T E1 kd1 ad1 rh1 μ1 ∧ (code = 0 → e8 = val)
section SqCs
variable {nc cp N0 : Nat} {ada adb : Nat → Nat → Nat} {ml : Int32} {arr : Nat → Int32} {μc μ' : gM} {S S' : sqSt} {sv : Option sqSt} {β β' : Nat → Int32} {len len' : Nat} {T : List Nat}
theorem cSt_lo (hw : wI (gE_C nc) adb cp T ada cp 0 0 arr) (hsv : (nc = 1 ∧ sv = none) ∨ (nc = 2 ∧ ∃ S', sv = some S' ∧ RB μc 1 S')) (F : ∀ f i j, 6 ≤ f → μ' f i j = μc f i j) (hR : RB μc 0 S) (hBu : BuC μ' β' len') : cSt (adb 0 0) S sv β' len' T (mxE sE (gE_C nc)) (mxK (sKd cp N0) gkd_C) (mxA ada adb) (mxR sRh (grh_C nc)) (mxM (sM T.length ml arr) μ') :=
  ⟨nc, cp, N0, ada, adb, ml, arr, μ', rfl, rfl, rfl, rfl, rfl, rfl, hw, hR.low F, hBu, by
    rcases hsv with h | ⟨h, S9, h1, h2⟩
    · exact Or.inl h
    · exact Or.inr ⟨h, S9, h1, h2.low F⟩⟩
theorem cSt_pf (hw : wI (gE_C nc) adb cp T ada cp 0 0 arr) (hsv : (nc = 1 ∧ sv = none) ∨ (nc = 2 ∧ ∃ S', sv = some S' ∧ RB μc 1 S')) (F : gFr pfC μc μ') (hR : RB μ' 0 S') (h4 : μ' 1 0 4 = 0) : cSt (adb 0 0) S' sv β 0 T (mxE sE (gE_C nc)) (mxK (sKd cp N0) gkd_C) (mxA ada adb) (mxR sRh (grh_C nc)) (mxM (sM T.length ml arr) μ') :=
  ⟨nc, cp, N0, ada, adb, ml, arr, μ', rfl, rfl, rfl, rfl, rfl, rfl, hw, hR, ⟨by rw [h4]; rfl, by omega, fun i hi => absurd hi (Nat.not_lt_zero i)⟩, by
    rcases hsv with h | ⟨h, S9, h1, h2⟩
    · exact Or.inl h
    · refine Or.inr ⟨h, S9, h1, ?_⟩
      have h3 : RB (fun f i j => if 6 ≤ f then μ' f i j else μc f i j) 1 S9 := h2.fr (q0 := 0) (by decide) (fun f i j z => by
        show (if 6 ≤ f then μ' f i j else μc f i j) = _
        split
        · refine F f i j (fun z9 => ?_)
          rcases z9 with z9 | z9
          · exact z z9
          · omega
        · rfl)
      exact h3.low (fun f i j z => (if_pos z).symm)⟩
end SqCs
section JX8
variable {l : Launch} {D : va_G} {tc : Nat → ClassId} {sa : Nat → Nat} {E : List (Nat × Nat)} {kd : Nat → gKd} {ad : Nat → Nat → Nat} {rh : gRh} {μ : gM} {cJ cD : ClassId} {x1 x2 a0 n len : Nat} {v8 : Int64} {d8 : UInt64} {S : sqSt} {sv : Option sqSt} {β : Nat → Int32} {T : List Nat} {a1 a2 a3 : Int32}
theorem lW_setLink (hlz : l.stackTraces = false) (hS : cSt a0 S sv β len T E kd ad rh μ) (hZ : zJ n S) (hn : n ≤ 600) : wMet l yL_setLink cL_setLink 6 [(0, 19, 22, 26), (0, 19, 26, 13)] ({ frames := 14, cells := 1, slots := 6, locals := 1000 } : Room) D E kd tc ad rh sa cJ cD x1 x2 v8 d8 [.ref a0, .int a1, .int a2, .int a3, .ref x1] μ (lPo1 a0 (zaLink S a1.toInt a2.toInt (decide (a3 ≠ 0))).1 (zaLink S a1.toInt a2.toInt (decide (a3 ≠ 0))).2.1 (zaLink S a1.toInt a2.toInt (decide (a3 ≠ 0))).2.2 sv β len T) := by
  obtain ⟨nc, cp, N0, ada, adb, ml, arr, μc, rfl, rfl, rfl, rfl, rfl, rfl, hw, hR, hBu, hsv⟩ := hS
  have hnc := hsv_nc hsv
  have hI := hw.1
  have hIb := gI_mxb hI
  have hBn := zB_lt hn
  have hY : RY (zB n) μc 0 S := ⟨hR, hZ.1, by omega⟩
  obtain ⟨q, hq, hp⟩ := mX6_setLink_ok (nc := nc) (a1 := a1) (a2 := a2) (a3 := a3) hR
  refine wMet_of hI ⟨by decide +kernel, Nat.le_of_ble_eq_true rfl⟩ (fun p e s m args below meth c sz hr hlk htab => ?_)
  show JX cJ cD x1 x2 v8 d8 p l e ({ frames := 14, cells := 1, slots := 6, locals := 1000 } : Room) s m args below meth c cL_setLink 6 RL D (mxE sE (gE_C nc)) (mxK (sKd cp N0) gkd_C) tc (mxA ada adb) (mxR sRh (grh_C nc)) sa (wA (mxE sE (gE_C nc)) (mxA ada adb) x1 x2 sz) s.heap 0 0 (MQ below (wQ D tc cJ cD x1 x2 (mxE sE (gE_C nc)) (mxA ada adb) sz (lPo1 (adb 0 0) (zaLink S a1.toInt a2.toInt (decide (a3 ≠ 0))).1 (zaLink S a1.toInt a2.toInt (decide (a3 ≠ 0))).2.1 (zaLink S a1.toInt a2.toInt (decide (a3 ≠ 0))).2.2 sv β len T)) args s 1 6 (wA (mxE sE (gE_C nc)) (mxA ada adb) x1 x2 sz)) (mxM (sM T.length ml arr) μc) 0 [(0, .ref (adb 0 0)), (1, .int a1), (2, .int a2), (3, .int a3), (4, .ref x1)] []
  refine JX_aload (i := 4) (q := 4) (pc1 := 2) dL_setLink_0 rfl rfl ?_
  refine JX_iconst (v := 0) (pc1 := 3) dL_setLink_2 (by decide) rfl ?_
  refine JX_aload_n (i := 0) (q := 0) (pc1 := 4) dL_setLink_3 rfl rfl rfl ?_
  refine JX_iload_n (i := 1) (q := 1) (pc1 := 5) dL_setLink_4 rfl rfl rfl ?_
  refine JX_iload_n (i := 2) (q := 2) (pc1 := 6) dL_setLink_5 rfl rfl rfl ?_
  refine JX_iload_n (i := 3) (q := 3) (pc1 := 7) dL_setLink_6 rfl rfl rfl ?_
  match q, hq, hp with
  | .inr (r, μ9), hq, hp =>
    obtain ⟨h0, hv, hF, hR9⟩ := hp
    refine JX_mixB (o := some (.int r)) (μ1 := μ9) (pc1 := 10) (st := [.int 0, .ref x1]) (st1 := [.int r, .int 0, .ref x1]) (ce := 0) (sl := 0) hI mxL_sE (J_hV (st := [.int 0, .ref x1]) (As := [.int a1, .int a2, .int a3]) (gMet.G hIb ⟨rfl, rfl⟩ (kX6_setLink l D tc sa adb nc hnc hIb a1 a2 a3 μc r μ9 hq)) wcX6_setLink rfl wlL_22 mxA_b.symm (mxE_b (eC0 (nc := nc))) rfl rfl rfl ⟨Nat.le_of_ble_eq_true rfl, Nat.le_of_ble_eq_true rfl⟩ ⟨Nat.le_of_ble_eq_true rfl, Nat.le_of_ble_eq_true rfl⟩ (Nat.le_of_ble_eq_true rfl) dL_setLink_7) rfl rfl rfl rfl ?_
    refine JX_if_eq (tgt := 17) (pc1 := 13) dL_setLink_10 (by decide) (fun qq => ?_) rfl (fun qq => ?_)
    · skip
      refine JX_lconst (v := (0 : Int32).toInt64) (pc1 := 18) dL_setLink_17 rfl rfl ?_
      refine JX_last (pc1 := 19) dL_setLink_18 rfl ?_
      refine JX_goto (tgt := 30) dL_setLink_19 (by decide) ?_
      refine JX_iconst (v := 0) (pc1 := 31) dL_setLink_30 (by decide) rfl ?_
      exact JX_iretW hr hlk ⟨by rw [h0]; rfl, cSt_fr hw hBu hsv hF hR9, fun _ => ⟨0, rfl, by rw [← hv, qq]⟩⟩ hI (Nat.le_of_ble_eq_true rfl) (Nat.le_of_ble_eq_true rfl) dL_setLink_31
    · skip
      refine JX_lconst (v := (1 : Int32).toInt64) (pc1 := 14) dL_setLink_13 rfl rfl ?_
      refine JX_goto (tgt := 18) dL_setLink_14 (by decide) ?_
      refine JX_last (pc1 := 19) dL_setLink_18 rfl ?_
      refine JX_goto (tgt := 30) dL_setLink_19 (by decide) ?_
      refine JX_iconst (v := 0) (pc1 := 31) dL_setLink_30 (by decide) rfl ?_
      exact JX_iretW hr hlk ⟨by rw [h0]; rfl, cSt_fr hw hBu hsv hF hR9, fun _ => ⟨1, rfl, zLink_1 hv qq⟩⟩ hI (Nat.le_of_ble_eq_true rfl) (Nat.le_of_ble_eq_true rfl) dL_setLink_31
  | .inl (ex, μ9), hq, hp =>
    obtain ⟨hc0, hex, hF, hR9⟩ := hp
    have hz : (zaLink S a1.toInt a2.toInt (decide (a3 ≠ 0))).1 = 1 ∨ (zaLink S a1.toInt a2.toInt (decide (a3 ≠ 0))).1 = 2 := by have := zc_Link (S := S) (a := a1.toInt) (b := a2.toInt) (x := decide (a3 ≠ 0)); omega
    rcases hz with e | e
    · rw [e] at hex
      have hex2 : ex = gX 2 := hex
      subst hex2
      refine JX_catchB (i0 := 2) (h1 := 22) (ce := 1) (sl := 6) (pre := []) (x := ⟨0, 19, 22, 26⟩) (suf := [⟨0, 19, 26, 13⟩]) (st := [.int 0, .ref x1]) (As := [.int a1, .int a2, .int a3]) hI mxL_sE (tX6_setLink l D tc sa adb nc hnc hIb a1 a2 a3 μc hlz (gX 2) μ9 hq) wcX6_setLink wlL_22 (eC0 (nc := nc)) rfl rfl rfl ⟨rfl, rfl, Nat.le_of_ble_eq_true rfl, Nat.le_of_ble_eq_true rfl⟩ ⟨Nat.le_of_ble_eq_true rfl, Nat.le_of_ble_eq_true rfl⟩ (Nat.le_of_ble_eq_true rfl) dL_setLink_7 (by decide) (htab.trans rfl) (fun z hz => absurd hz List.not_mem_nil) rfl (by decide) clL_26 rfl rfl rfl (fun q9 => ?_)
      refine JX_astore (i := 5) (lv1 := [(5, .ref q9), (0, .ref (adb 0 0)), (1, .int a1), (2, .int a2), (3, .int a3), (4, .ref x1)]) (pc1 := 24) dL_setLink_22 (by decide) rfl rfl ?_
      refine JX_iconst (v := 1) (pc1 := 25) dL_setLink_24 (by decide) rfl ?_
      exact JX_iretW hr hlk ⟨by rw [e]; rfl, cSt_fr hw hBu hsv hF hR9, fun z => absurd (e.symm.trans z) (by decide)⟩ hI (Nat.le_of_ble_eq_true rfl) (Nat.le_of_ble_eq_true rfl) dL_setLink_25
    · rw [e] at hex
      have hex2 : ex = gX 0 := hex
      subst hex2
      refine JX_catchB (i0 := 0) (h1 := 26) (ce := 1) (sl := 6) (pre := [⟨0, 19, 22, 26⟩]) (x := ⟨0, 19, 26, 13⟩) (suf := []) (st := [.int 0, .ref x1]) (As := [.int a1, .int a2, .int a3]) hI mxL_sE (tX6_setLink l D tc sa adb nc hnc hIb a1 a2 a3 μc hlz (gX 0) μ9 hq) wcX6_setLink wlL_22 (eC0 (nc := nc)) rfl rfl rfl ⟨rfl, rfl, Nat.le_of_ble_eq_true rfl, Nat.le_of_ble_eq_true rfl⟩ ⟨Nat.le_of_ble_eq_true rfl, Nat.le_of_ble_eq_true rfl⟩ (Nat.le_of_ble_eq_true rfl) dL_setLink_7 (by decide) (htab.trans rfl) (List.forall_mem_cons.mpr ⟨⟨by decide, 2, by decide, by decide, clL_26⟩, (fun z hz => absurd hz List.not_mem_nil)⟩) rfl (by decide) clL_13 rfl rfl rfl (fun q9 => ?_)
      refine JX_astore (i := 5) (lv1 := [(5, .ref q9), (0, .ref (adb 0 0)), (1, .int a1), (2, .int a2), (3, .int a3), (4, .ref x1)]) (pc1 := 28) dL_setLink_26 (by decide) rfl rfl ?_
      refine JX_iconst (v := 2) (pc1 := 29) dL_setLink_28 (by decide) rfl ?_
      exact JX_iretW hr hlk ⟨by rw [e]; rfl, cSt_fr hw hBu hsv hF hR9, fun z => absurd (e.symm.trans z) (by decide)⟩ hI (Nat.le_of_ble_eq_true rfl) (Nat.le_of_ble_eq_true rfl) dL_setLink_29
theorem lW_share (hlz : l.stackTraces = false) (hS : cSt a0 S sv β len T E kd ad rh μ) (hZ : zJ n S) (hn : n ≤ 600) : wMet l yL_share cL_share 4 [(0, 8, 11, 26), (0, 8, 14, 85)] ({ frames := 14, cells := 1, slots := 6, locals := 1000 } : Room) D E kd tc ad rh sa cJ cD x1 x2 v8 d8 [.ref a0, .int a1, .ref x2] μ (lPoD a0 (zaShare S a1.toInt).1 (zaShare S a1.toInt).2 S sv β len T) := by
  obtain ⟨nc, cp, N0, ada, adb, ml, arr, μc, rfl, rfl, rfl, rfl, rfl, rfl, hw, hR, hBu, hsv⟩ := hS
  have hnc := hsv_nc hsv
  have hI := hw.1
  have hIb := gI_mxb hI
  have hBn := zB_lt hn
  have hY : RY (zB n) μc 0 S := ⟨hR, hZ.1, by omega⟩
  obtain ⟨q, hq, hp⟩ := mX6_share_ok (nc := nc) (a1 := a1) hY (by omega) hnc.1
  refine wMet_of hI ⟨by decide +kernel, Nat.le_of_ble_eq_true rfl⟩ (fun p e s m args below meth c sz hr hlk htab => ?_)
  show JX cJ cD x1 x2 v8 d8 p l e ({ frames := 14, cells := 1, slots := 6, locals := 1000 } : Room) s m args below meth c cL_share 4 RL D (mxE sE (gE_C nc)) (mxK (sKd cp N0) gkd_C) tc (mxA ada adb) (mxR sRh (grh_C nc)) sa (wA (mxE sE (gE_C nc)) (mxA ada adb) x1 x2 sz) s.heap 0 0 (MQ below (wQ D tc cJ cD x1 x2 (mxE sE (gE_C nc)) (mxA ada adb) sz (lPoD (adb 0 0) (zaShare S a1.toInt).1 (zaShare S a1.toInt).2 S sv β len T)) args s 1 6 (wA (mxE sE (gE_C nc)) (mxA ada adb) x1 x2 sz)) (mxM (sM T.length ml arr) μc) 0 [(0, .ref (adb 0 0)), (1, .int a1), (2, .ref x2)] []
  refine JX_aload_n (i := 2) (q := 2) (pc1 := 1) dL_share_0 rfl rfl rfl ?_
  refine JX_iconst (v := 0) (pc1 := 2) dL_share_1 (by decide) rfl ?_
  refine JX_aload_n (i := 0) (q := 0) (pc1 := 3) dL_share_2 rfl rfl rfl ?_
  refine JX_iload_n (i := 1) (q := 1) (pc1 := 4) dL_share_3 rfl rfl rfl ?_
  match q, hq, hp with
  | .inr r, hq, hp =>
    obtain ⟨h0, hv⟩ := hp
    refine JX_mixB (o := some (.double r)) (μ1 := μc) (pc1 := 7) (st := [.int 0, .ref x2]) (st1 := [.double r, .int 0, .ref x2]) (ce := 0) (sl := 0) hI mxL_sE (J_hV (st := [.int 0, .ref x2]) (As := [.int a1]) (gMet.G hIb ⟨rfl, rfl⟩ (kX6_share l D tc sa adb nc hnc hIb a1 μc r hq)) wcX6_share rfl wlL_81 mxA_b.symm (mxE_b (eC0 (nc := nc))) rfl rfl rfl ⟨Nat.le_of_ble_eq_true rfl, Nat.le_of_ble_eq_true rfl⟩ ⟨Nat.le_of_ble_eq_true rfl, Nat.le_of_ble_eq_true rfl⟩ (Nat.le_of_ble_eq_true rfl) dL_share_4) rfl rfl rfl rfl ?_
    refine JX_dast (pc1 := 8) dL_share_7 rfl ?_
    refine JX_goto (tgt := 17) dL_share_8 (by decide) ?_
    refine JX_iconst (v := 0) (pc1 := 18) dL_share_17 (by decide) rfl ?_
    exact JX_iretW hr hlk ⟨by rw [h0]; rfl, cSt_fr hw hBu hsv gFr.rf hR, fun _ => hv⟩ hI (Nat.le_of_ble_eq_true rfl) (Nat.le_of_ble_eq_true rfl) dL_share_18
  | .inl (ex, μ9), hq, hp =>
    obtain ⟨hc0, hex, hm9⟩ := hp
    have hm9 : μ9 = μc := hm9
    subst hm9
    have hz : (zaShare S a1.toInt).1 = 1 ∨ (zaShare S a1.toInt).1 = 2 := by have := zc_Share (S := S) (a := a1.toInt); omega
    rcases hz with e | e
    · rw [e] at hex
      have hex2 : ex = gX 2 := hex
      subst hex2
      refine JX_catchB (i0 := 2) (h1 := 11) (ce := 1) (sl := 6) (pre := []) (x := ⟨0, 8, 11, 26⟩) (suf := [⟨0, 8, 14, 85⟩]) (st := [.int 0, .ref x2]) (As := [.int a1]) hI mxL_sE (tX6_share l D tc sa adb nc hnc hIb a1 μ9 hlz (gX 2) μ9 hq) wcX6_share wlL_81 (eC0 (nc := nc)) rfl rfl rfl ⟨rfl, rfl, Nat.le_of_ble_eq_true rfl, Nat.le_of_ble_eq_true rfl⟩ ⟨Nat.le_of_ble_eq_true rfl, Nat.le_of_ble_eq_true rfl⟩ (Nat.le_of_ble_eq_true rfl) dL_share_4 (by decide) (htab.trans rfl) (fun z hz => absurd hz List.not_mem_nil) rfl (by decide) clL_26 rfl rfl rfl (fun q9 => ?_)
      refine JX_astore_n (i := 3) (lv1 := [(3, .ref q9), (0, .ref (adb 0 0)), (1, .int a1), (2, .ref x2)]) (pc1 := 12) dL_share_11 rfl (by decide) rfl rfl ?_
      refine JX_iconst (v := 1) (pc1 := 13) dL_share_12 (by decide) rfl ?_
      exact JX_iretW hr hlk ⟨by rw [e]; rfl, cSt_fr hw hBu hsv gFr.rf hR, fun z => absurd (e.symm.trans z) (by decide)⟩ hI (Nat.le_of_ble_eq_true rfl) (Nat.le_of_ble_eq_true rfl) dL_share_13
    · rw [e] at hex
      have hex2 : ex = gX 5 := hex
      subst hex2
      refine JX_catchB (i0 := 5) (h1 := 14) (ce := 1) (sl := 6) (pre := [⟨0, 8, 11, 26⟩]) (x := ⟨0, 8, 14, 85⟩) (suf := []) (st := [.int 0, .ref x2]) (As := [.int a1]) hI mxL_sE (tX6_share l D tc sa adb nc hnc hIb a1 μ9 hlz (gX 5) μ9 hq) wcX6_share wlL_81 (eC0 (nc := nc)) rfl rfl rfl ⟨rfl, rfl, Nat.le_of_ble_eq_true rfl, Nat.le_of_ble_eq_true rfl⟩ ⟨Nat.le_of_ble_eq_true rfl, Nat.le_of_ble_eq_true rfl⟩ (Nat.le_of_ble_eq_true rfl) dL_share_4 (by decide) (htab.trans rfl) (List.forall_mem_cons.mpr ⟨⟨by decide, 2, by decide, by decide, clL_26⟩, (fun z hz => absurd hz List.not_mem_nil)⟩) rfl (by decide) clL_85 rfl rfl rfl (fun q9 => ?_)
      refine JX_astore_n (i := 3) (lv1 := [(3, .ref q9), (0, .ref (adb 0 0)), (1, .int a1), (2, .ref x2)]) (pc1 := 15) dL_share_14 rfl (by decide) rfl rfl ?_
      refine JX_iconst (v := 2) (pc1 := 16) dL_share_15 (by decide) rfl ?_
      exact JX_iretW hr hlk ⟨by rw [e]; rfl, cSt_fr hw hBu hsv gFr.rf hR, fun z => absurd (e.symm.trans z) (by decide)⟩ hI (Nat.le_of_ble_eq_true rfl) (Nat.le_of_ble_eq_true rfl) dL_share_16
theorem lW_feed (hlz : l.stackTraces = false) (hS : cSt a0 S sv β len T E kd ad rh μ) (hZ : zJ n S) (hn : n ≤ 600) (hch : vp_nar .char a1 = a1) : wMet l yL_feed cL_feed 4 [(0, 9, 12, 31)] ({ frames := 14, cells := 1, slots := 6, locals := 1000 } : Room) D E kd tc ad rh sa cJ cD x1 x2 v8 d8 [.ref a0, .int a1, .ref x1] μ (lPo1 a0 (zFeed β len a1).1 (zFeed β len a1).2.1 S sv (zFeed β len a1).2.2.1 (zFeed β len a1).2.2.2 T) := by
  obtain ⟨nc, cp, N0, ada, adb, ml, arr, μc, rfl, rfl, rfl, rfl, rfl, rfl, hw, hR, hBu, hsv⟩ := hS
  have hnc := hsv_nc hsv
  have hI := hw.1
  have hIb := gI_mxb hI
  have hBn := zB_lt hn
  have hY : RY (zB n) μc 0 S := ⟨hR, hZ.1, by omega⟩
  obtain ⟨q, hq, hp⟩ := mX6_feed_ok (nc := nc) (a1 := a1) hBu hch
  refine wMet_of hI ⟨by decide +kernel, Nat.le_of_ble_eq_true rfl⟩ (fun p e s m args below meth c sz hr hlk htab => ?_)
  show JX cJ cD x1 x2 v8 d8 p l e ({ frames := 14, cells := 1, slots := 6, locals := 1000 } : Room) s m args below meth c cL_feed 4 RL D (mxE sE (gE_C nc)) (mxK (sKd cp N0) gkd_C) tc (mxA ada adb) (mxR sRh (grh_C nc)) sa (wA (mxE sE (gE_C nc)) (mxA ada adb) x1 x2 sz) s.heap 0 0 (MQ below (wQ D tc cJ cD x1 x2 (mxE sE (gE_C nc)) (mxA ada adb) sz (lPo1 (adb 0 0) (zFeed β len a1).1 (zFeed β len a1).2.1 S sv (zFeed β len a1).2.2.1 (zFeed β len a1).2.2.2 T)) args s 1 6 (wA (mxE sE (gE_C nc)) (mxA ada adb) x1 x2 sz)) (mxM (sM T.length ml arr) μc) 0 [(0, .ref (adb 0 0)), (1, .int a1), (2, .ref x1)] []
  refine JX_aload_n (i := 2) (q := 2) (pc1 := 1) dL_feed_0 rfl rfl rfl ?_
  refine JX_iconst (v := 0) (pc1 := 2) dL_feed_1 (by decide) rfl ?_
  refine JX_aload_n (i := 0) (q := 0) (pc1 := 3) dL_feed_2 rfl rfl rfl ?_
  refine JX_iload_n (i := 1) (q := 1) (pc1 := 4) dL_feed_3 rfl rfl rfl ?_
  match q, hq, hp with
  | .inr (r, μ9), hq, hp =>
    obtain ⟨h0, hv, hbu, hF⟩ := hp
    have hlo : ∀ f i j, 6 ≤ f → μ9 f i j = μc f i j := fun f i j h => hF f i j (fun z => by omega)
    have hz1 : zFeed β len a1 = (0, ((len + 1 : Nat) : Int), upd β len a1, len + 1) := if_pos h0
    refine JX_mixB (o := some (.int r)) (μ1 := μ9) (pc1 := 7) (st := [.int 0, .ref x1]) (st1 := [.int r, .int 0, .ref x1]) (ce := 0) (sl := 0) hI mxL_sE (J_hV (st := [.int 0, .ref x1]) (As := [.int a1]) (gMet.G hIb ⟨rfl, rfl⟩ (kX6_feed l D tc sa adb nc hnc hIb a1 μc r μ9 hq)) wcX6_feed rfl wlL_87 mxA_b.symm (mxE_b (eC0 (nc := nc))) rfl rfl rfl ⟨Nat.le_of_ble_eq_true rfl, Nat.le_of_ble_eq_true rfl⟩ ⟨Nat.le_of_ble_eq_true rfl, Nat.le_of_ble_eq_true rfl⟩ (Nat.le_of_ble_eq_true rfl) dL_feed_4) rfl rfl rfl rfl ?_
    refine JX_i2l (v := (r).toInt64) (pc1 := 8) dL_feed_7 rfl rfl ?_
    refine JX_last (pc1 := 9) dL_feed_8 rfl ?_
    refine JX_goto (tgt := 15) dL_feed_9 (by decide) ?_
    refine JX_iconst (v := 0) (pc1 := 16) dL_feed_15 (by decide) rfl ?_
    exact JX_iretW hr hlk ⟨by rw [hz1]; rfl, cSt_lo hw hsv hlo hR (by rw [hz1]; exact hbu), fun _ => ⟨r, rfl, by rw [hz1]; exact hv⟩⟩ hI (Nat.le_of_ble_eq_true rfl) (Nat.le_of_ble_eq_true rfl) dL_feed_16
  | .inl (ex, μ9), hq, hp =>
    obtain ⟨h80, hex, hm9⟩ := hp
    have hm9 : μ9 = μc := hm9
    subst hm9
    have hz1 : zFeed β len a1 = (1, 0, β, len) := if_neg (by omega)
    have hex : ex = exc [eIS] (zFeed β len a1).1 := by rw [hz1]; exact hex
    have hz : (zFeed β len a1).1 = 1 := by have := (show (zFeed β len a1).1 = 1 by rw [hz1]); omega
    have e := hz
    rw [e] at hex
    have hex2 : ex = gX 1 := hex
    subst hex2
    refine JX_catchB (i0 := 1) (h1 := 12) (ce := 1) (sl := 6) (pre := []) (x := ⟨0, 9, 12, 31⟩) (suf := []) (st := [.int 0, .ref x1]) (As := [.int a1]) hI mxL_sE (tX6_feed l D tc sa adb nc hnc hIb a1 μ9 hlz (gX 1) μ9 hq) wcX6_feed wlL_87 (eC0 (nc := nc)) rfl rfl rfl ⟨rfl, rfl, Nat.le_of_ble_eq_true rfl, Nat.le_of_ble_eq_true rfl⟩ ⟨Nat.le_of_ble_eq_true rfl, Nat.le_of_ble_eq_true rfl⟩ (Nat.le_of_ble_eq_true rfl) dL_feed_4 (by decide) (htab.trans rfl) (fun z hz => absurd hz List.not_mem_nil) rfl (by decide) clL_31 rfl rfl rfl (fun q9 => ?_)
    refine JX_astore_n (i := 3) (lv1 := [(3, .ref q9), (0, .ref (adb 0 0)), (1, .int a1), (2, .ref x1)]) (pc1 := 13) dL_feed_12 rfl (by decide) rfl rfl ?_
    refine JX_iconst (v := 1) (pc1 := 14) dL_feed_13 (by decide) rfl ?_
    exact JX_iretW hr hlk ⟨by rw [e]; rfl, cSt_lo hw hsv (fun _ _ _ _ => rfl) hR (by rw [hz1]; exact hBu), fun z => absurd (e.symm.trans z) (by decide)⟩ hI (Nat.le_of_ble_eq_true rfl) (Nat.le_of_ble_eq_true rfl) dL_feed_14
theorem lW_perform (hlz : l.stackTraces = false) (hS : cSt a0 S sv β len T E kd ad rh μ) (hZ : zJ n S) (hn : n ≤ 600) : wMet l yL_perform cL_perform 3 [(0, 8, 11, 39)] ({ frames := 14, cells := 1, slots := 6, locals := 1000 } : Room) D E kd tc ad rh sa cJ cD x1 x2 v8 d8 [.ref a0, .ref x1] μ (lPo1 a0 (zaPerf β len S).1 (zaPerf β len S).2.1 (zaPerf β len S).2.2 sv β 0 T) := by
  obtain ⟨nc, cp, N0, ada, adb, ml, arr, μc, rfl, rfl, rfl, rfl, rfl, rfl, hw, hR, hBu, hsv⟩ := hS
  have hnc := hsv_nc hsv
  have hI := hw.1
  have hIb := gI_mxb hI
  have hBn := zB_lt hn
  have hY : RY (zB n) μc 0 S := ⟨hR, hZ.1, by omega⟩
  obtain ⟨q, hq, h4, hp⟩ := mX6_perform_ok (nc := nc) hBu hY (by omega) hnc
  refine wMet_of hI ⟨by decide +kernel, Nat.le_of_ble_eq_true rfl⟩ (fun p e s m args below meth c sz hr hlk htab => ?_)
  show JX cJ cD x1 x2 v8 d8 p l e ({ frames := 14, cells := 1, slots := 6, locals := 1000 } : Room) s m args below meth c cL_perform 3 RL D (mxE sE (gE_C nc)) (mxK (sKd cp N0) gkd_C) tc (mxA ada adb) (mxR sRh (grh_C nc)) sa (wA (mxE sE (gE_C nc)) (mxA ada adb) x1 x2 sz) s.heap 0 0 (MQ below (wQ D tc cJ cD x1 x2 (mxE sE (gE_C nc)) (mxA ada adb) sz (lPo1 (adb 0 0) (zaPerf β len S).1 (zaPerf β len S).2.1 (zaPerf β len S).2.2 sv β 0 T)) args s 1 6 (wA (mxE sE (gE_C nc)) (mxA ada adb) x1 x2 sz)) (mxM (sM T.length ml arr) μc) 0 [(0, .ref (adb 0 0)), (1, .ref x1)] []
  refine JX_aload_n (i := 1) (q := 1) (pc1 := 1) dL_perform_0 rfl rfl rfl ?_
  refine JX_iconst (v := 0) (pc1 := 2) dL_perform_1 (by decide) rfl ?_
  refine JX_aload_n (i := 0) (q := 0) (pc1 := 3) dL_perform_2 rfl rfl rfl ?_
  match q, hq, h4, hp with
  | .inr (r, μ9), hq, h4, hp =>
    obtain ⟨h0, hv, hF, hR9⟩ := hp
    refine JX_mixB (o := some (.int r)) (μ1 := μ9) (pc1 := 6) (st := [.int 0, .ref x1]) (st1 := [.int r, .int 0, .ref x1]) (ce := 0) (sl := 0) hI mxL_sE (J_hV (st := [.int 0, .ref x1]) (As := []) (gMet.G hIb ⟨rfl, rfl⟩ (kX6_perform l D tc sa adb nc hnc hIb μc r μ9 hq)) wcX6_perform rfl wlL_91 mxA_b.symm (mxE_b (eC0 (nc := nc))) rfl rfl rfl ⟨Nat.le_of_ble_eq_true rfl, Nat.le_of_ble_eq_true rfl⟩ ⟨Nat.le_of_ble_eq_true rfl, Nat.le_of_ble_eq_true rfl⟩ (Nat.le_of_ble_eq_true rfl) dL_perform_3) rfl rfl rfl rfl ?_
    refine JX_i2l (v := (r).toInt64) (pc1 := 7) dL_perform_6 rfl rfl ?_
    refine JX_last (pc1 := 8) dL_perform_7 rfl ?_
    refine JX_goto (tgt := 14) dL_perform_8 (by decide) ?_
    refine JX_iconst (v := 0) (pc1 := 15) dL_perform_14 (by decide) rfl ?_
    exact JX_iretW hr hlk ⟨by rw [h0]; rfl, cSt_pf hw hsv hF hR9 h4, fun _ => ⟨r, rfl, hv⟩⟩ hI (Nat.le_of_ble_eq_true rfl) (Nat.le_of_ble_eq_true rfl) dL_perform_15
  | .inl (ex, μ9), hq, h4, hp =>
    obtain ⟨hc0, hex, hF, hR9⟩ := hp
    have hz : (zaPerf β len S).1 = 1 := by have := zc_Perf (S := S) (β := β) (len := len); omega
    have e := hz
    rw [e] at hex
    have hex2 : ex = gX 3 := hex
    subst hex2
    refine JX_catchB (i0 := 3) (h1 := 11) (ce := 1) (sl := 6) (pre := []) (x := ⟨0, 8, 11, 39⟩) (suf := []) (st := [.int 0, .ref x1]) (As := []) hI mxL_sE (tX6_perform l D tc sa adb nc hnc hIb μc hlz (gX 3) μ9 hq) wcX6_perform wlL_91 (eC0 (nc := nc)) rfl rfl rfl ⟨rfl, rfl, Nat.le_of_ble_eq_true rfl, Nat.le_of_ble_eq_true rfl⟩ ⟨Nat.le_of_ble_eq_true rfl, Nat.le_of_ble_eq_true rfl⟩ (Nat.le_of_ble_eq_true rfl) dL_perform_3 (by decide) (htab.trans rfl) (fun z hz => absurd hz List.not_mem_nil) rfl (by decide) clL_39 rfl rfl rfl (fun q9 => ?_)
    refine JX_astore_n (i := 2) (lv1 := [(2, .ref q9), (0, .ref (adb 0 0)), (1, .ref x1)]) (pc1 := 12) dL_perform_11 rfl (by decide) rfl rfl ?_
    refine JX_iconst (v := 1) (pc1 := 13) dL_perform_12 (by decide) rfl ?_
    exact JX_iretW hr hlk ⟨by rw [e]; rfl, cSt_pf hw hsv hF hR9 h4, fun z => absurd (e.symm.trans z) (by decide)⟩ hI (Nat.le_of_ble_eq_true rfl) (Nat.le_of_ble_eq_true rfl) dL_perform_13
theorem lW_write_y (hlz : l.stackTraces = false) (hS : cSt a0 S sv β len T E kd ad rh μ) (hZ : zJ n S) (hn : n ≤ 600) {k : Nat} (hk : k < 5) (h1 : a1.toInt = (k : Int)) : wMet l yL_write cL_write 4 [(0, 9, 12, 26)] ({ frames := 14, cells := 80, slots := 2900, locals := 1000 } : Room) D E kd tc ad rh sa cJ cD x1 x2 v8 d8 [.ref a0, .int a1, .ref x1] μ (lPo1 a0 0 ((txL (zno S k)).length : Int) S sv β len (txL (zno S k))) := by
  obtain ⟨nc, cp, N0, ada, adb, ml, arr, μc, rfl, rfl, rfl, rfl, rfl, rfl, hw, hR, hBu, hsv⟩ := hS
  have hnc := hsv_nc hsv
  have hI := hw.1
  have hIb := gI_mxb hI
  have hBn := zB_lt hn
  have hY : RY (zB n) μc 0 S := ⟨hR, hZ.1, by omega⟩
  refine wMet_of hI ⟨by decide +kernel, Nat.le_of_ble_eq_true rfl⟩ (fun p e s m args below meth c sz hr hlk htab => ?_)
  show JX cJ cD x1 x2 v8 d8 p l e ({ frames := 14, cells := 80, slots := 2900, locals := 1000 } : Room) s m args below meth c cL_write 4 RL D (mxE sE (gE_C nc)) (mxK (sKd cp N0) gkd_C) tc (mxA ada adb) (mxR sRh (grh_C nc)) sa (wA (mxE sE (gE_C nc)) (mxA ada adb) x1 x2 sz) s.heap 0 0 (MQ below (wQ D tc cJ cD x1 x2 (mxE sE (gE_C nc)) (mxA ada adb) sz (lPo1 (adb 0 0) 0 ((txL (zno S k)).length : Int) S sv β len (txL (zno S k)))) args s 80 2900 (wA (mxE sE (gE_C nc)) (mxA ada adb) x1 x2 sz)) (mxM (sM T.length ml arr) μc) 0 [(0, .ref (adb 0 0)), (1, .int a1), (2, .ref x1)] []
  refine JX_aload_n (i := 2) (q := 2) (pc1 := 1) dL_write_0 rfl rfl rfl ?_
  refine JX_iconst (v := 0) (pc1 := 2) dL_write_1 (by decide) rfl ?_
  refine JX_aload_n (i := 0) (q := 0) (pc1 := 3) dL_write_2 rfl rfl rfl ?_
  refine JX_iload_n (i := 1) (q := 1) (pc1 := 4) dL_write_3 rfl rfl rfl ?_
  refine JX_runE (J_hV (adc := mxA ada adb) (fc := 30) (ic := 0) (st := [.int 0, .ref x1]) (As := [.int a1]) (kX6_write l D tc sa (g := 0) hnc hw hY hk h1) wcX6_write rfl wlL_94 rfl (mxE_b (eC0 (nc := nc))) rfl rfl rfl ⟨Nat.le_of_ble_eq_true rfl, Nat.le_of_ble_eq_true rfl⟩ ⟨Nat.le_of_ble_eq_true rfl, Nat.le_of_ble_eq_true rfl⟩ (Nat.le_of_ble_eq_true rfl) dL_write_4) (fun o1 E1 kd1 ad1 rh1 μ1 hp hI1 hfr => ?_)
  obtain ⟨rfl, ada1, cp1, N1, ml1, arr1, rfl, rfl, rfl, rfl, rfl, hw1⟩ := hp
  rw [show (Value.ref (adb 0 0)) = .ref (adb 0 0) from rfl]
  show JX cJ cD x1 x2 v8 d8 p l e ({ frames := 14, cells := 80, slots := 2900, locals := 1000 } : Room) s m args below meth c cL_write 4 RL D (mxE sE (gE_C nc)) (mxK (sKd cp1 N1) gkd_C) tc (mxA ada1 adb) (mxR sRh (grh_C nc)) sa (wA (mxE sE (gE_C nc)) (mxA ada adb) x1 x2 sz) s.heap 80 2900 _ (mxM (sM (txL (zno S k)).length ml1 arr1) μc) 7 [(0, .ref (adb 0 0)), (1, .int a1), (2, .ref x1)] [.int (nI (txL (zno S k)).length), .int 0, .ref x1]
  refine JX_i2l (v := (nI (txL (zno S k)).length).toInt64) (pc1 := 8) dL_write_7 rfl rfl ?_
  refine JX_last (pc1 := 9) dL_write_8 rfl ?_
  refine JX_goto (tgt := 15) dL_write_9 (by decide) ?_
  refine JX_iconst (v := 0) (pc1 := 16) dL_write_15 (by decide) rfl ?_
  exact JX_iretW hr hlk ⟨rfl, ⟨nc, cp1, N1, ada1, adb, ml1, arr1, μc, rfl, rfl, rfl, rfl, rfl, rfl, hw1, hR, hBu, hsv⟩, fun _ => ⟨_, rfl, nI_toInt (by have := hw1.2.2.2.2.1; have := hw1.2.2.2.2.2.1; omega)⟩⟩ hI1 (Nat.le_of_ble_eq_true rfl) (Nat.le_of_ble_eq_true rfl) dL_write_16
theorem lW_write_n (hlz : l.stackTraces = false) (hS : cSt a0 S sv β len T E kd ad rh μ) (hZ : zJ n S) (hn : n ≤ 600) (h1 : ¬ (0 ≤ a1.toInt ∧ a1.toInt < 5)) : wMet l yL_write cL_write 4 [(0, 9, 12, 26)] ({ frames := 14, cells := 80, slots := 2900, locals := 1000 } : Room) D E kd tc ad rh sa cJ cD x1 x2 v8 d8 [.ref a0, .int a1, .ref x1] μ (lPo1 a0 1 0 S sv β len T) := by
  obtain ⟨nc, cp, N0, ada, adb, ml, arr, μc, rfl, rfl, rfl, rfl, rfl, rfl, hw, hR, hBu, hsv⟩ := hS
  have hnc := hsv_nc hsv
  have hI := hw.1
  have hIb := gI_mxb hI
  have hBn := zB_lt hn
  have hY : RY (zB n) μc 0 S := ⟨hR, hZ.1, by omega⟩
  refine wMet_of hI ⟨by decide +kernel, Nat.le_of_ble_eq_true rfl⟩ (fun p e s m args below meth c sz hr hlk htab => ?_)
  show JX cJ cD x1 x2 v8 d8 p l e ({ frames := 14, cells := 80, slots := 2900, locals := 1000 } : Room) s m args below meth c cL_write 4 RL D (mxE sE (gE_C nc)) (mxK (sKd cp N0) gkd_C) tc (mxA ada adb) (mxR sRh (grh_C nc)) sa (wA (mxE sE (gE_C nc)) (mxA ada adb) x1 x2 sz) s.heap 0 0 (MQ below (wQ D tc cJ cD x1 x2 (mxE sE (gE_C nc)) (mxA ada adb) sz (lPo1 (adb 0 0) 1 0 S sv β len T)) args s 80 2900 (wA (mxE sE (gE_C nc)) (mxA ada adb) x1 x2 sz)) (mxM (sM T.length ml arr) μc) 0 [(0, .ref (adb 0 0)), (1, .int a1), (2, .ref x1)] []
  refine JX_aload_n (i := 2) (q := 2) (pc1 := 1) dL_write_0 rfl rfl rfl ?_
  refine JX_iconst (v := 0) (pc1 := 2) dL_write_1 (by decide) rfl ?_
  refine JX_aload_n (i := 0) (q := 0) (pc1 := 3) dL_write_2 rfl rfl rfl ?_
  refine JX_iload_n (i := 1) (q := 1) (pc1 := 4) dL_write_3 rfl rfl rfl ?_
  refine JX_catchB (i0 := 2) (h1 := 12) (ce := 1) (sl := 6) (pre := []) (x := ⟨0, 9, 12, 26⟩) (suf := []) (st := [.int 0, .ref x1]) (As := [.int a1]) hI mxL_sE (tX6_write l D tc sa hnc hIb hlz h1) wcX6_write wlL_94 (eC0 (nc := nc)) rfl rfl rfl ⟨rfl, rfl, Nat.le_of_ble_eq_true rfl, Nat.le_of_ble_eq_true rfl⟩ ⟨Nat.le_of_ble_eq_true rfl, Nat.le_of_ble_eq_true rfl⟩ (Nat.le_of_ble_eq_true rfl) dL_write_4 (by decide) (htab.trans rfl) (fun z hz => absurd hz List.not_mem_nil) rfl (by decide) clL_26 rfl rfl rfl (fun q9 => ?_)
  refine JX_astore_n (i := 3) (lv1 := [(3, .ref q9), (0, .ref (adb 0 0)), (1, .int a1), (2, .ref x1)]) (pc1 := 13) dL_write_12 rfl (by decide) rfl rfl ?_
  refine JX_iconst (v := 1) (pc1 := 14) dL_write_13 (by decide) rfl ?_
  exact JX_iretW hr hlk ⟨rfl, cSt_fr hw hBu hsv gFr.rf hR, fun z => absurd z (by decide)⟩ hI (Nat.le_of_ble_eq_true rfl) (Nat.le_of_ble_eq_true rfl) dL_write_14
theorem lW_text_y (hlz : l.stackTraces = false) (hS : cSt a0 S sv β len T E kd ad rh μ) (hZ : zJ n S) (hn : n ≤ 600) {k : Nat} (hk : k < T.length) : wMet l yL_text cL_text 4 [(0, 9, 12, 26)] ({ frames := 14, cells := 1, slots := 6, locals := 1000 } : Room) D E kd tc ad rh sa cJ cD x1 x2 v8 d8 [.ref a0, .int (nI k), .ref x1] μ (lPo1 a0 0 ((T.getD k 0 : Nat) : Int) S sv β len T) := by
  obtain ⟨nc, cp, N0, ada, adb, ml, arr, μc, rfl, rfl, rfl, rfl, rfl, rfl, hw, hR, hBu, hsv⟩ := hS
  have hnc := hsv_nc hsv
  have hI := hw.1
  have hIb := gI_mxb hI
  have hBn := zB_lt hn
  have hY : RY (zB n) μc 0 S := ⟨hR, hZ.1, by omega⟩
  refine wMet_of hI ⟨by decide +kernel, Nat.le_of_ble_eq_true rfl⟩ (fun p e s m args below meth c sz hr hlk htab => ?_)
  show JX cJ cD x1 x2 v8 d8 p l e ({ frames := 14, cells := 1, slots := 6, locals := 1000 } : Room) s m args below meth c cL_text 4 RL D (mxE sE (gE_C nc)) (mxK (sKd cp N0) gkd_C) tc (mxA ada adb) (mxR sRh (grh_C nc)) sa (wA (mxE sE (gE_C nc)) (mxA ada adb) x1 x2 sz) s.heap 0 0 (MQ below (wQ D tc cJ cD x1 x2 (mxE sE (gE_C nc)) (mxA ada adb) sz (lPo1 (adb 0 0) 0 ((T.getD k 0 : Nat) : Int) S sv β len T)) args s 1 6 (wA (mxE sE (gE_C nc)) (mxA ada adb) x1 x2 sz)) (mxM (sM T.length ml arr) μc) 0 [(0, .ref (adb 0 0)), (1, .int (nI k)), (2, .ref x1)] []
  refine JX_aload_n (i := 2) (q := 2) (pc1 := 1) dL_text_0 rfl rfl rfl ?_
  refine JX_iconst (v := 0) (pc1 := 2) dL_text_1 (by decide) rfl ?_
  refine JX_aload_n (i := 0) (q := 0) (pc1 := 3) dL_text_2 rfl rfl rfl ?_
  refine JX_iload_n (i := 1) (q := 1) (pc1 := 4) dL_text_3 rfl rfl rfl ?_
  refine JX_runM (mc := 0) (ms := 0) (o := some (.int (nI (T.getD k 0)))) (pc1 := 7) (st1 := [.int (nI (T.getD k 0)), .int 0, .ref x1]) (ce := 0) (sl := 0) (J_hV (adc := mxA ada adb) (fc := 30) (ic := 0) (st := [.int 0, .ref x1]) (As := [.int (nI k)]) (kX6_text l D tc sa (a1 := nI k) hw hk) wcX6_text rfl wlL_97 rfl (mxE_b (eC0 (nc := nc))) rfl rfl rfl ⟨Nat.le_of_ble_eq_true rfl, Nat.le_of_ble_eq_true rfl⟩ ⟨Nat.le_of_ble_eq_true rfl, Nat.le_of_ble_eq_true rfl⟩ (Nat.le_of_ble_eq_true rfl) dL_text_4) rfl rfl rfl rfl ?_
  refine JX_i2l (v := (nI (T.getD k 0)).toInt64) (pc1 := 8) dL_text_7 rfl rfl ?_
  refine JX_last (pc1 := 9) dL_text_8 rfl ?_
  refine JX_goto (tgt := 15) dL_text_9 (by decide) ?_
  refine JX_iconst (v := 0) (pc1 := 16) dL_text_15 (by decide) rfl ?_
  exact JX_iretW hr hlk ⟨rfl, cSt_fr hw hBu hsv gFr.rf hR, fun _ => ⟨_, rfl, nI_toInt (by have h9 : T.getD k 0 < 256 := (hw.2.2.1 k hk).1; omega)⟩⟩ hI (Nat.le_of_ble_eq_true rfl) (Nat.le_of_ble_eq_true rfl) dL_text_16
theorem lW_text_n (hlz : l.stackTraces = false) (hS : cSt a0 S sv β len T E kd ad rh μ) (hZ : zJ n S) (hn : n ≤ 600) (hx : ∀ k : Nat, a1 = nI k → ¬ k < T.length) : wMet l yL_text cL_text 4 [(0, 9, 12, 26)] ({ frames := 14, cells := 1, slots := 6, locals := 1000 } : Room) D E kd tc ad rh sa cJ cD x1 x2 v8 d8 [.ref a0, .int a1, .ref x1] μ (lPo1 a0 1 0 S sv β len T) := by
  obtain ⟨nc, cp, N0, ada, adb, ml, arr, μc, rfl, rfl, rfl, rfl, rfl, rfl, hw, hR, hBu, hsv⟩ := hS
  have hnc := hsv_nc hsv
  have hI := hw.1
  have hIb := gI_mxb hI
  have hBn := zB_lt hn
  have hY : RY (zB n) μc 0 S := ⟨hR, hZ.1, by omega⟩
  refine wMet_of hI ⟨by decide +kernel, Nat.le_of_ble_eq_true rfl⟩ (fun p e s m args below meth c sz hr hlk htab => ?_)
  show JX cJ cD x1 x2 v8 d8 p l e ({ frames := 14, cells := 1, slots := 6, locals := 1000 } : Room) s m args below meth c cL_text 4 RL D (mxE sE (gE_C nc)) (mxK (sKd cp N0) gkd_C) tc (mxA ada adb) (mxR sRh (grh_C nc)) sa (wA (mxE sE (gE_C nc)) (mxA ada adb) x1 x2 sz) s.heap 0 0 (MQ below (wQ D tc cJ cD x1 x2 (mxE sE (gE_C nc)) (mxA ada adb) sz (lPo1 (adb 0 0) 1 0 S sv β len T)) args s 1 6 (wA (mxE sE (gE_C nc)) (mxA ada adb) x1 x2 sz)) (mxM (sM T.length ml arr) μc) 0 [(0, .ref (adb 0 0)), (1, .int a1), (2, .ref x1)] []
  refine JX_aload_n (i := 2) (q := 2) (pc1 := 1) dL_text_0 rfl rfl rfl ?_
  refine JX_iconst (v := 0) (pc1 := 2) dL_text_1 (by decide) rfl ?_
  refine JX_aload_n (i := 0) (q := 0) (pc1 := 3) dL_text_2 rfl rfl rfl ?_
  refine JX_iload_n (i := 1) (q := 1) (pc1 := 4) dL_text_3 rfl rfl rfl ?_
  refine JX_catch (f := 30) (i := 0) (fc := 30) (ic := 0) (μ2 := mxM (sM T.length ml arr) μc) (i0 := 2) (h1 := 12) (ce := 1) (sl := 6) (pre := []) (x := ⟨0, 9, 12, 26⟩) (suf := []) (st := [.int 0, .ref x1]) (As := [.int a1]) (tX6_text l D tc sa hw hlz hx) wcX6_text rfl wlL_97 rfl (mxE_b (eC0 (nc := nc))) rfl rfl rfl ⟨rfl, rfl, Nat.le_of_ble_eq_true rfl, Nat.le_of_ble_eq_true rfl⟩ ⟨Nat.le_of_ble_eq_true rfl, Nat.le_of_ble_eq_true rfl⟩ (Nat.le_of_ble_eq_true rfl) dL_text_4 (fun f i h => ⟨f, i, h, rfl, rfl⟩) (fun f i h => Or.inl ⟨f, i, h, rfl, rfl⟩) (by decide) (htab.trans rfl) (fun z hz => absurd hz List.not_mem_nil) rfl (by decide) clL_26 rfl rfl rfl (fun q9 => ?_)
  refine JX_astore_n (i := 3) (lv1 := [(3, .ref q9), (0, .ref (adb 0 0)), (1, .int a1), (2, .ref x1)]) (pc1 := 13) dL_text_12 rfl (by decide) rfl rfl ?_
  refine JX_iconst (v := 1) (pc1 := 14) dL_text_13 (by decide) rfl ?_
  exact JX_iretW hr hlk ⟨rfl, cSt_fr hw hBu hsv gFr.rf hR, fun z => absurd z (by decide)⟩ hI (Nat.le_of_ble_eq_true rfl) (Nat.le_of_ble_eq_true rfl) dL_text_14
theorem lW_restore_y (hlz : l.stackTraces = false) (hS : cSt a0 S sv β len T E kd ad rh μ) (hZ : zJ n S) (hn : n ≤ 600) {S9 : sqSt} (hsv9 : sv = some S9) (hZ9 : zJ n S9) : wMet l yL_restore cL_restore 3 [(0, 8, 11, 31)] ({ frames := 14, cells := 1, slots := 6, locals := 1000 } : Room) D E kd tc ad rh sa cJ cD x1 x2 v8 d8 [.ref a0, .ref x1] μ (lPo1 a0 0 (zti S9 : Int) S9 sv β len T) := by
  obtain ⟨nc, cp, N0, ada, adb, ml, arr, μc, rfl, rfl, rfl, rfl, rfl, rfl, hw, hR, hBu, hsv⟩ := hS
  have hnc := hsv_nc hsv
  have hI := hw.1
  have hIb := gI_mxb hI
  have hBn := zB_lt hn
  have hY : RY (zB n) μc 0 S := ⟨hR, hZ.1, by omega⟩
  refine wMet_of hI ⟨by decide +kernel, Nat.le_of_ble_eq_true rfl⟩ (fun p e s m args below meth c sz hr hlk htab => ?_)
  show JX cJ cD x1 x2 v8 d8 p l e ({ frames := 14, cells := 1, slots := 6, locals := 1000 } : Room) s m args below meth c cL_restore 3 RL D (mxE sE (gE_C nc)) (mxK (sKd cp N0) gkd_C) tc (mxA ada adb) (mxR sRh (grh_C nc)) sa (wA (mxE sE (gE_C nc)) (mxA ada adb) x1 x2 sz) s.heap 0 0 (MQ below (wQ D tc cJ cD x1 x2 (mxE sE (gE_C nc)) (mxA ada adb) sz (lPo1 (adb 0 0) 0 (zti S9 : Int) S9 sv β len T)) args s 1 6 (wA (mxE sE (gE_C nc)) (mxA ada adb) x1 x2 sz)) (mxM (sM T.length ml arr) μc) 0 [(0, .ref (adb 0 0)), (1, .ref x1)] []
  refine JX_aload_n (i := 1) (q := 1) (pc1 := 1) dL_restore_0 rfl rfl rfl ?_
  refine JX_iconst (v := 0) (pc1 := 2) dL_restore_1 (by decide) rfl ?_
  refine JX_aload_n (i := 0) (q := 0) (pc1 := 3) dL_restore_2 rfl rfl rfl ?_
  rcases hsv with ⟨rfl, hs1⟩ | ⟨rfl, S8, hs1, hR8⟩
  · rw [hs1] at hsv9
    cases hsv9
  · rw [hs1] at hsv9
    cases hsv9
    obtain ⟨q, hq, ⟨r, μ9⟩, rfl, hF, hv, hR9, hR1⟩ := mX6_restore_ok (nc := 2) hR (⟨hR8, hZ9.1, by omega⟩ : RY (zB n) μc 1 S9) rfl
    have hF : gFr (rbP 0) μc μ9 := hF
    subst hs1
    refine JX_mixB (o := some (.int r)) (μ1 := μ9) (pc1 := 6) (st := [.int 0, .ref x1]) (st1 := [.int r, .int 0, .ref x1]) (ce := 0) (sl := 0) hI mxL_sE (J_hV (st := [.int 0, .ref x1]) (As := []) (gMet.G hIb ⟨rfl, rfl⟩ (kX6_restore l D tc sa adb 2 hnc hIb rfl μc r μ9 hq)) wcX6_restore rfl wlL_101 mxA_b.symm (mxE_b (eC0 (nc := 2))) rfl rfl rfl ⟨Nat.le_of_ble_eq_true rfl, Nat.le_of_ble_eq_true rfl⟩ ⟨Nat.le_of_ble_eq_true rfl, Nat.le_of_ble_eq_true rfl⟩ (Nat.le_of_ble_eq_true rfl) dL_restore_3) rfl rfl rfl rfl ?_
    refine JX_i2l (v := (r).toInt64) (pc1 := 7) dL_restore_6 rfl rfl ?_
    refine JX_last (pc1 := 8) dL_restore_7 rfl ?_
    refine JX_goto (tgt := 14) dL_restore_8 (by decide) ?_
    refine JX_iconst (v := 0) (pc1 := 15) dL_restore_14 (by decide) rfl ?_
    exact JX_iretW hr hlk ⟨rfl, ⟨2, cp, N0, ada, adb, ml, arr, μ9, rfl, rfl, rfl, rfl, rfl, rfl, hw, hR9, ⟨by rw [hF 1 0 4 (fun z => by have := rbP_6 z; omega)]; exact hBu.1, hBu.2.1, fun i hi => by rw [hF 2 0 i (fun z => by have := rbP_6 z; omega)]; exact hBu.2.2 i hi⟩, Or.inr ⟨rfl, S9, rfl, hR1⟩⟩, fun _ => ⟨r, rfl, hv⟩⟩ hI (Nat.le_of_ble_eq_true rfl) (Nat.le_of_ble_eq_true rfl) dL_restore_15
theorem lW_restore_n (hlz : l.stackTraces = false) (hS : cSt a0 S sv β len T E kd ad rh μ) (hZ : zJ n S) (hn : n ≤ 600) (hsv9 : sv = none) : wMet l yL_restore cL_restore 3 [(0, 8, 11, 31)] ({ frames := 14, cells := 1, slots := 6, locals := 1000 } : Room) D E kd tc ad rh sa cJ cD x1 x2 v8 d8 [.ref a0, .ref x1] μ (lPo1 a0 1 0 S sv β len T) := by
  obtain ⟨nc, cp, N0, ada, adb, ml, arr, μc, rfl, rfl, rfl, rfl, rfl, rfl, hw, hR, hBu, hsv⟩ := hS
  have hnc := hsv_nc hsv
  have hI := hw.1
  have hIb := gI_mxb hI
  have hBn := zB_lt hn
  have hY : RY (zB n) μc 0 S := ⟨hR, hZ.1, by omega⟩
  refine wMet_of hI ⟨by decide +kernel, Nat.le_of_ble_eq_true rfl⟩ (fun p e s m args below meth c sz hr hlk htab => ?_)
  show JX cJ cD x1 x2 v8 d8 p l e ({ frames := 14, cells := 1, slots := 6, locals := 1000 } : Room) s m args below meth c cL_restore 3 RL D (mxE sE (gE_C nc)) (mxK (sKd cp N0) gkd_C) tc (mxA ada adb) (mxR sRh (grh_C nc)) sa (wA (mxE sE (gE_C nc)) (mxA ada adb) x1 x2 sz) s.heap 0 0 (MQ below (wQ D tc cJ cD x1 x2 (mxE sE (gE_C nc)) (mxA ada adb) sz (lPo1 (adb 0 0) 1 0 S sv β len T)) args s 1 6 (wA (mxE sE (gE_C nc)) (mxA ada adb) x1 x2 sz)) (mxM (sM T.length ml arr) μc) 0 [(0, .ref (adb 0 0)), (1, .ref x1)] []
  refine JX_aload_n (i := 1) (q := 1) (pc1 := 1) dL_restore_0 rfl rfl rfl ?_
  refine JX_iconst (v := 0) (pc1 := 2) dL_restore_1 (by decide) rfl ?_
  refine JX_aload_n (i := 0) (q := 0) (pc1 := 3) dL_restore_2 rfl rfl rfl ?_
  rcases hsv with ⟨rfl, hs1⟩ | ⟨rfl, S8, hs1, hR8⟩
  · refine JX_catchB (i0 := 1) (h1 := 11) (ce := 1) (sl := 6) (pre := []) (x := ⟨0, 8, 11, 31⟩) (suf := []) (st := [.int 0, .ref x1]) (As := []) hI mxL_sE (tX6_restore1 l D tc sa adb hIb μc hlz) wcX6_restore wlL_101 (eC0 (nc := 1)) rfl rfl rfl ⟨rfl, rfl, Nat.le_of_ble_eq_true rfl, Nat.le_of_ble_eq_true rfl⟩ ⟨Nat.le_of_ble_eq_true rfl, Nat.le_of_ble_eq_true rfl⟩ (Nat.le_of_ble_eq_true rfl) dL_restore_3 (by decide) (htab.trans rfl) (fun z hz => absurd hz List.not_mem_nil) rfl (by decide) clL_31 rfl rfl rfl (fun q9 => ?_)
    refine JX_astore_n (i := 2) (lv1 := [(2, .ref q9), (0, .ref (adb 0 0)), (1, .ref x1)]) (pc1 := 12) dL_restore_11 rfl (by decide) rfl rfl ?_
    refine JX_iconst (v := 1) (pc1 := 13) dL_restore_12 (by decide) rfl ?_
    exact JX_iretW hr hlk ⟨rfl, cSt_fr hw hBu (Or.inl ⟨rfl, hs1⟩) gFr.rf hR, fun z => absurd z (by decide)⟩ hI (Nat.le_of_ble_eq_true rfl) (Nat.le_of_ble_eq_true rfl) dL_restore_13
  · rw [hsv9] at hs1
    cases hs1
end JX8
