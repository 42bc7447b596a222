/-! new StringBuilder(), append of the empty text, toString(), length and charAt of what it gives -/
section SB8r
variable {p : Program} {l : Launch} {e : Env} {R : Room} {s : State} {m : MethodId} {args : Array Value} {below : List Frame} {meth : Method} {c : Code} {cc : ByteArray} {nL : Nat} {own : String} {D : va_G} {E : List (Nat × Nat)} {kd : Nat → gKd} {tc : Nat → ClassId} {ad : Nat → Nat → Nat} {rh : gRh} {sa : Nat → Nat} {A : Nat → Prop} {H0 : Heap} {cells slots : Nat} {Q : State → Prop} {μ : gM} {pc : Nat} {lv : List (Nat × Value)} {st : List Value}
/-- a call that reaches a part of the world: the rest is as it was -/
theorem J_runSub {Ec : List (Nat × Nat)} {kdc : Nat → gKd} {adc : Nat → Nat → Nat} {rhc : gRh} {μc μ1 μ2 : gM} {mc ms : Nat} {av st0 st1 : List Value} {o : Option Value} {pc1 ce sl : Nat} (hI : gI E ad)
    (hsub : ∀ f i, (f, i) ∈ Ec → (f, i) ∈ E ∧ adc f i = ad f i ∧ g_e kdc tc adc rhc (μc f i) f i = g_e kd tc ad rh (μ f i) f i)
    (hrun : gRunH p l e R s m args below meth c cc nL own D E kd tc ad rh sa A H0 cells slots μ pc lv Ec kdc adc rhc μc mc ms (gSame Ec kdc adc rhc o μ1) st av st0)
    (h2 : ∀ f i, (f, i) ∈ Ec → g_e kd tc ad rh (μ2 f i) f i = g_e kdc tc adc rhc (μ1 f i) f i) (h3 : ∀ f i, (f, i) ∈ E → (f, i) ∉ Ec → μ2 f i = μ f i) (hp : pc + 3 = pc1) (hs : o.toList ++ st = st1) (hc1 : cells + mc = ce) (hc2 : slots + ms = sl)
    (k : J p l e R s m args below meth c cc nL own D E kd tc ad rh sa A H0 ce sl Q μ2 pc1 lv st1) : J p l e R s m args below meth c cc nL own D E kd tc ad rh sa A H0 cells slots Q μ pc lv st0 := by
  subst hp; subst hs; subst hc1; subst hc2
  refine J_runG (fun f i h => ⟨f, i, (hsub f i h).1, (hsub f i h).2.1, (hsub f i h).2.2⟩) hrun (fun o1 E1 kd1 ad1 rh1 μ3 hp hI1 hf => ?_)
  obtain ⟨rfl, rfl, rfl, rfl, rfl, rfl⟩ := hp
  refine ⟨E, kd, ad, rh, μ2, hI, fun f i h => ?_, k⟩
  by_cases hm : (f, i) ∈ E1
  · exact Or.inl ⟨f, i, hm, (hsub f i hm).2.1.symm, h2 f i hm⟩
  · refine Or.inr ⟨f, i, h, fun a b hab z => ?_, rfl, by rw [h3 f i h hm]⟩
    obtain ⟨q1, q2, -⟩ := hsub a b hab
    rw [q2] at z
    obtain ⟨k1, e1⟩ := List.getElem?_of_mem q1
    obtain ⟨k2, e2⟩ := List.getElem?_of_mem h
    have e3 := hI k1 k2 (a, b) (f, i) e1 e2 z
    subst e3
    rw [e1] at e2
    obtain ⟨rfl, rfl⟩ := Prod.mk.inj (Option.some.inj e2)
    exact hm hab
end SB8r
def tKd (cp L : Nat) : Nat → gKd := fun f => if f = 0 then .inl (1, 4, [0]) else if f = 1 then .inr (.inl (4, cp)) else if f = 2 then .inl (0, 4, [0]) else .inr (.inl (4, L))
def tE : List (Nat × Nat) := [(0, 0), (1, 0), (2, 0)]
def tM (n : Nat) (ml : Int32) (arr a2 : Nat → Int32) : gM := fun f i k => if f = 3 ∧ i = 0 then a2 k else sM n ml arr f i k
theorem tE0 : (0, 0) ∈ tE := List.mem_cons_self
theorem tE1 : (1, 0) ∈ tE := List.mem_cons_of_mem _ List.mem_cons_self
theorem tE2 : (2, 0) ∈ tE := List.mem_cons_of_mem _ (List.mem_cons_of_mem _ List.mem_cons_self)
theorem tE_in {f i : Nat} (h : (f, i) ∈ tE) : (f = 0 ∧ i = 0) ∨ (f = 1 ∧ i = 0) ∨ (f = 2 ∧ i = 0) := by
  simpa [tE] using h
theorem tM_ne {n : Nat} {ml : Int32} {arr a2 : Nat → Int32} {f i : Nat} (h : ¬ (f = 3 ∧ i = 0)) : tM n ml arr a2 f i = sM n ml arr f i := by
  funext k
  unfold tM
  rw [if_neg h]
theorem sub_sE {cp L N : Nat} {tc : Nat → ClassId} {ad : Nat → Nat → Nat} {μ : gM} (f i : Nat) (h : (f, i) ∈ sE) : (f, i) ∈ tE ∧ ad f i = ad f i ∧ g_e (sKd cp N) tc ad sRh (μ f i) f i = g_e (tKd cp L) tc ad sRh (μ f i) f i := by
  rcases sE_in h with ⟨rfl, rfl⟩ | ⟨rfl, rfl⟩
  · exact ⟨tE0, rfl, rfl⟩
  · exact ⟨tE1, rfl, rfl⟩
theorem sM_0 : sM 0 0 (fun _ => 0) = fun _ _ _ => 0 := by
  funext f i k
  unfold sM
  have h0 : nI 0 = 0 := rfl
  rw [h0]
  (repeat' split) <;> rfl
theorem J_bretG {p : Program} {l : Launch} {e : Env} {R : Room} {s : State} {m : MethodId} {args : Array Value} {below : List Frame} {meth : Method} {c : Code} {cc : ByteArray} {nL : Nat} {own : String} {D : va_G} {E : List (Nat × Nat)} {tc : Nat → ClassId} {ad : Nat → Nat → Nat} {sa : Nat → Nat} {cells slots : Nat} {pc : Nat} {lv : List (Nat × Value)} {E1 : List (Nat × Nat)} {kd1 : Nat → gKd} {ad1 : Nat → Nat → Nat} {rh1 : gRh} {μ1 : gM} {sz mc ms : Nat} {P : gPo} {v : Int32} (hb : narrow .byte (.int v) = .int v) (hr : meth.sig.returnType = some .byte) (hlk : meth.locks = false) (hP : P (some (.int v)) E1 kd1 ad1 rh1 μ1) (hI : gI E1 ad1) (hc : cells ≤ mc) (hs : slots ≤ ms) (hdg : decode cc pc = .ok (.ireturn, 1)) : J p l e R s m args below meth c cc nL own D E1 kd1 tc ad1 rh1 sa (gA E ad sz) s.heap cells slots (MQ below (gQG D tc E ad sz P) args s mc ms (gA E ad sz)) μ1 pc lv [.int v] := fun H locs ls C hH hS hl =>
  W.widen hc hs (W.zret C.1 C.2.1 hr hb (fun t ht hW => gQG_end hP hI (C.2.2.2.2.2.2.1 μ1) hH hS ht) hS.2.2 hdg hlk)
theorem wlJ5_3 : Cond.methodLink RJ5 3 Lib.objectInit ∈ BIG := bigT2 (i := 129) rfl rfl
theorem imObj : Cond.instanceMethod Lib.objectInit ∈ BIG := bigT1 (i := 38) rfl rfl
theorem cdObj : Cond.code Lib.objectInit ⟨#[0xb1]⟩ 1 none ∈ BIG := bigT1 (i := 39) rfl rfl
theorem wlJ4_1 : Cond.methodLink RJ4 1 yJ5_init_d00df ∈ BIG := bigT2 (i := 126) rfl rfl
theorem imJ5_init_d00df : Cond.instanceMethod yJ5_init_d00df ∈ BIG := bigT2 (i := 127) rfl rfl
theorem cdJ5_init_d00df : Cond.code yJ5_init_d00df cJ5_init_d00df 2 (none) ∈ BIG := bigT2 (i := 128) rfl rfl
theorem wiJ4_1 : wCi RJ4 1 yJ5_init_d00df cJ5_init_d00df 2 1 := ⟨⟨wlJ4_1, imJ5_init_d00df, iniJ5, cdJ5_init_d00df⟩, rfl, by decide +kernel⟩
theorem wlJ0_212 : Cond.methodLink RJ0 212 arraycopyName ∈ BIG := bigT6 (i := 106) rfl rfl
theorem wlJ5_40 : Cond.methodLink RJ5 40 yJ0_coder_7d493 ∈ BIG := bigT6 (i := 82) rfl rfl
theorem wlJ5_397 : Cond.methodLink RJ5 397 yJ5_inflateIfNeededFor_a7421 ∈ BIG := bigT6 (i := 78) rfl rfl
theorem smJ5_inflateIfNeededFor_a7421 : Cond.sameMethod yJ5_inflateIfNeededFor_a7421.cls yJ5_inflateIfNeededFor_a7421.cls yJ5_inflateIfNeededFor_a7421.name yJ5_inflateIfNeededFor_a7421.desc ∈ BIG := bigT8 (i := 227) rfl rfl
theorem imJ5_inflateIfNeededFor_a7421 : Cond.instanceMethod yJ5_inflateIfNeededFor_a7421 ∈ BIG := bigT6 (i := 80) rfl rfl
theorem cdJ5_inflateIfNeededFor_a7421 : Cond.code yJ5_inflateIfNeededFor_a7421 cJ5_inflateIfNeededFor_a7421 2 (none) ∈ BIG := bigT6 (i := 81) rfl rfl
theorem wuJ5_397 : wCu RJ4 RJ5 397 yJ5_inflateIfNeededFor_a7421 yJ5_inflateIfNeededFor_a7421 cJ5_inflateIfNeededFor_a7421 2 (none) 1 := ⟨⟨wlJ5_397, smJ5_inflateIfNeededFor_a7421, imJ5_inflateIfNeededFor_a7421, ⟨_, _, _, cdJ5_inflateIfNeededFor_a7421⟩, imJ5_inflateIfNeededFor_a7421, iniJ5, cdJ5_inflateIfNeededFor_a7421⟩, by decide +kernel⟩
theorem slb3 : Cond.selects RJ4 yJ5_inflateIfNeededFor_a7421 yJ5_inflateIfNeededFor_a7421 ∈ BIG := big_sb (i := 3) rfl rfl
theorem slb2 : Cond.selects RJ4 yJ5_putStringAt_47b60 yJ5_putStringAt_47b60 ∈ BIG := big_sb (i := 2) rfl rfl
theorem wlJ5_399 : Cond.methodLink RJ5 399 yJ0_getBytes_840e7 ∈ BIG := bigT6 (i := 102) rfl rfl
theorem imJ0_getBytes_840e7 : Cond.instanceMethod yJ0_getBytes_840e7 ∈ BIG := bigT6 (i := 103) rfl rfl
theorem seJ0_getBytes_840e7 : Cond.selects yJ0_getBytes_840e7.cls yJ0_getBytes_840e7 yJ0_getBytes_840e7 ∈ BIG := bigT6 (i := 104) rfl rfl
theorem cdJ0_getBytes_840e7 : Cond.code yJ0_getBytes_840e7 cJ0_getBytes_840e7 4 (none) ∈ BIG := bigT6 (i := 105) rfl rfl
theorem wcJ0_getBytes_840e7 : wCv yJ0_getBytes_840e7 cJ0_getBytes_840e7 4 (none) 3 := ⟨⟨imJ0_getBytes_840e7, seJ0_getBytes_840e7, iniJ0, cdJ0_getBytes_840e7⟩, by decide +kernel⟩
theorem wlJ5_32 : Cond.methodLink RJ5 32 yJ0_length_8abf5 ∈ BIG := bigT6 (i := 73) rfl rfl
theorem wlJ5_208 : Cond.methodLink RJ5 208 yJ5_putStringAt_47b60 ∈ BIG := bigT6 (i := 74) rfl rfl
theorem smJ5_putStringAt_47b60 : Cond.sameMethod yJ5_putStringAt_47b60.cls yJ5_putStringAt_47b60.cls yJ5_putStringAt_47b60.name yJ5_putStringAt_47b60.desc ∈ BIG := bigT8 (i := 226) rfl rfl
theorem imJ5_putStringAt_47b60 : Cond.instanceMethod yJ5_putStringAt_47b60 ∈ BIG := bigT6 (i := 76) rfl rfl
theorem cdJ5_putStringAt_47b60 : Cond.code yJ5_putStringAt_47b60 cJ5_putStringAt_47b60 3 (none) ∈ BIG := bigT6 (i := 77) rfl rfl
theorem wuJ5_208 : wCu RJ4 RJ5 208 yJ5_putStringAt_47b60 yJ5_putStringAt_47b60 cJ5_putStringAt_47b60 3 (none) 2 := ⟨⟨wlJ5_208, smJ5_putStringAt_47b60, imJ5_putStringAt_47b60, ⟨_, _, _, cdJ5_putStringAt_47b60⟩, imJ5_putStringAt_47b60, iniJ5, cdJ5_putStringAt_47b60⟩, by decide +kernel⟩
theorem wlJ4_29 : Cond.methodLink RJ4 29 yJ5_append_cf1ce ∈ BIG := bigT6 (i := 17) rfl rfl
theorem smJ5_append_cf1ce : Cond.sameMethod yJ5_append_cf1ce.cls yJ5_append_cf1ce.cls yJ5_append_cf1ce.name yJ5_append_cf1ce.desc ∈ BIG := bigT8 (i := 222) rfl rfl
theorem imJ5_append_cf1ce : Cond.instanceMethod yJ5_append_cf1ce ∈ BIG := bigT6 (i := 18) rfl rfl
theorem cdJ5_append_cf1ce : Cond.code yJ5_append_cf1ce cJ5_append_cf1ce 3 (some (.object "java/lang/AbstractStringBuilder")) ∈ BIG := bigT6 (i := 19) rfl rfl
theorem wpJ4_29 : wCsu RJ4 29 yJ5_append_cf1ce cJ5_append_cf1ce 3 (some (.object "java/lang/AbstractStringBuilder")) 1 := ⟨⟨wlJ4_29, smJ5_append_cf1ce, spJ4, imJ5_append_cf1ce, iniJ5, cdJ5_append_cf1ce⟩, by decide +kernel⟩
theorem wlJ7_343 : Cond.methodLink RJ7 343 yJ7_checkLength_df160 ∈ BIG := bigT6 (i := 165) rfl rfl
theorem stJ7_checkLength_df160 : Cond.static yJ7_checkLength_df160 ∈ BIG := bigT6 (i := 166) rfl rfl
theorem cdJ7_checkLength_df160 : Cond.code yJ7_checkLength_df160 cJ7_checkLength_df160 2 (none) ∈ BIG := bigT6 (i := 167) rfl rfl
theorem wcJ7_checkLength_df160 : wCs yJ7_checkLength_df160 cJ7_checkLength_df160 2 (none) 2 := ⟨⟨stJ7_checkLength_df160, iniJ7, cdJ7_checkLength_df160⟩, by decide +kernel⟩
theorem wlJ7_339 : Cond.methodLink RJ7 339 yJ7_copyOfRangeByte_39247 ∈ BIG := bigT6 (i := 162) rfl rfl
theorem stJ7_copyOfRangeByte_39247 : Cond.static yJ7_copyOfRangeByte_39247 ∈ BIG := bigT6 (i := 163) rfl rfl
theorem cdJ7_copyOfRangeByte_39247 : Cond.code yJ7_copyOfRangeByte_39247 cJ7_copyOfRangeByte_39247 5 (some (.array .byte)) ∈ BIG := bigT6 (i := 164) rfl rfl
theorem wcJ7_copyOfRangeByte_39247 : wCs yJ7_copyOfRangeByte_39247 cJ7_copyOfRangeByte_39247 5 (some (.array .byte)) 3 := ⟨⟨stJ7_copyOfRangeByte_39247, iniJ7, cdJ7_copyOfRangeByte_39247⟩, by decide +kernel⟩
theorem wlJ0_1o : Cond.methodLink RJ0 1 Lib.objectInit ∈ BIG := bigT6 (i := 144) rfl rfl
theorem slJ4_J5_getValue_6d5f1_J5_getValue_6d5f1 : Cond.selects RJ4 yJ5_getValue_6d5f1 yJ5_getValue_6d5f1 ∈ BIG := bigT6 (i := 148) rfl rfl
theorem wlJ0_552 : Cond.methodLink RJ0 552 yJ5_getValue_6d5f1 ∈ BIG := bigT6 (i := 145) rfl rfl
theorem smJ5_getValue_6d5f1 : Cond.sameMethod yJ5_getValue_6d5f1.cls yJ5_getValue_6d5f1.cls yJ5_getValue_6d5f1.name yJ5_getValue_6d5f1.desc ∈ BIG := bigT6 (i := 147) rfl rfl
theorem imJ5_getValue_6d5f1 : Cond.instanceMethod yJ5_getValue_6d5f1 ∈ BIG := bigT6 (i := 146) rfl rfl
theorem cdJ5_getValue_6d5f1 : Cond.code yJ5_getValue_6d5f1 cJ5_getValue_6d5f1 1 (some (.array .byte)) ∈ BIG := bigT6 (i := 149) rfl rfl
theorem wuJ0_552 : wCu RJ4 RJ0 552 yJ5_getValue_6d5f1 yJ5_getValue_6d5f1 cJ5_getValue_6d5f1 1 (some (.array .byte)) 0 := ⟨⟨wlJ0_552, smJ5_getValue_6d5f1, imJ5_getValue_6d5f1, ⟨_, _, _, cdJ5_getValue_6d5f1⟩, imJ5_getValue_6d5f1, iniJ5, cdJ5_getValue_6d5f1⟩, by decide +kernel⟩
theorem slJ4_J5_length_8abf5_J4_length_8abf5 : Cond.selects RJ4 yJ5_length_8abf5 yJ4_length_8abf5 ∈ BIG := bigT6 (i := 153) rfl rfl
theorem wlJ0_549 : Cond.methodLink RJ0 549 yJ5_length_8abf5 ∈ BIG := bigT6 (i := 150) rfl rfl
theorem imJ4_length_8abf5 : Cond.instanceMethod yJ4_length_8abf5 ∈ BIG := bigT6 (i := 154) rfl rfl
theorem iniJ4 : Cond.initialized RJ4 ∈ BIG := bigT1 (i := 9) rfl rfl
theorem cdJ4_length_8abf5 : Cond.code yJ4_length_8abf5 cJ4_length_8abf5 1 (some .int) ∈ BIG := bigT6 (i := 155) rfl rfl
theorem wuJ0_549 : wCu RJ4 RJ0 549 yJ5_length_8abf5 yJ4_length_8abf5 cJ4_length_8abf5 1 (some .int) 0 := ⟨⟨wlJ0_549, smJ5_length_8abf5, imJ5_length_8abf5, ⟨_, _, _, cdJ5_length_8abf5⟩, imJ4_length_8abf5, iniJ4, cdJ4_length_8abf5⟩, by decide +kernel⟩
theorem wlJ0_1047 : Cond.methodLink RJ0 1047 yJ5_isLatin1_aae02 ∈ BIG := bigT6 (i := 158) rfl rfl
theorem wuJ0_1047 : wCu RJ4 RJ0 1047 yJ5_isLatin1_aae02 yJ5_isLatin1_aae02 cJ5_isLatin1_aae02 1 (some .boolean) 0 := ⟨⟨wlJ0_1047, smJ5_isLatin1_aae02, imJ5_isLatin1_aae02, ⟨_, _, _, cdJ5_isLatin1_aae02⟩, imJ5_isLatin1_aae02, iniJ5, cdJ5_isLatin1_aae02⟩, by decide +kernel⟩
theorem wlJ0_54 : Cond.methodLink RJ0 54 yJ7_copyOfRange_39247 ∈ BIG := bigT6 (i := 159) rfl rfl
theorem stJ7_copyOfRange_39247 : Cond.static yJ7_copyOfRange_39247 ∈ BIG := bigT6 (i := 160) rfl rfl
theorem cdJ7_copyOfRange_39247 : Cond.code yJ7_copyOfRange_39247 cJ7_copyOfRange_39247 3 (some (.array .byte)) ∈ BIG := bigT6 (i := 161) rfl rfl
theorem wcJ7_copyOfRange_39247 : wCs yJ7_copyOfRange_39247 cJ7_copyOfRange_39247 3 (some (.array .byte)) 3 := ⟨⟨stJ7_copyOfRange_39247, iniJ7, cdJ7_copyOfRange_39247⟩, by decide +kernel⟩
theorem wlJ0_489 : Cond.methodLink RJ0 489 yJ0_init_db425 ∈ BIG := bigT6 (i := 141) rfl rfl
theorem imJ0_init_db425 : Cond.instanceMethod yJ0_init_db425 ∈ BIG := bigT6 (i := 142) rfl rfl
theorem cdJ0_init_db425 : Cond.code yJ0_init_db425 cJ0_init_db425 5 (none) ∈ BIG := bigT6 (i := 143) rfl rfl
theorem wiJ0_489 : wCi RJ0 489 yJ0_init_db425 cJ0_init_db425 5 2 := ⟨⟨wlJ0_489, imJ0_init_db425, iniJ0, cdJ0_init_db425⟩, rfl, by decide +kernel⟩
theorem clJ4_18 : Cond.classLink RJ4 18 RJ0 ∈ BIG := bigT6 (i := 137) rfl rfl
theorem inst0 : Cond.instantiable RJ0 4 ∈ BIG := bigT4 (i := 64) rfl rfl
theorem wlJ4_137 : Cond.methodLink RJ4 137 yJ0_init_81219 ∈ BIG := bigT6 (i := 138) rfl rfl
theorem imJ0_init_81219 : Cond.instanceMethod yJ0_init_81219 ∈ BIG := bigT6 (i := 139) rfl rfl
theorem cdJ0_init_81219 : Cond.code yJ0_init_81219 cJ0_init_81219 2 (none) ∈ BIG := bigT6 (i := 140) rfl rfl
theorem wiJ4_137 : wCi RJ4 137 yJ0_init_81219 cJ0_init_81219 2 1 := ⟨⟨wlJ4_137, imJ0_init_81219, iniJ0, cdJ0_init_81219⟩, rfl, by decide +kernel⟩
section SB8
variable (l : Launch) (D : va_G) (tc : Nat → ClassId) (sa : Nat → Nat)
theorem w3_id {μ : gM} {f i j : Nat} {v : Int32} (h : μ f i j = v) : w3 μ f i j v = μ := by
  funext f' i' j'
  unfold w3
  by_cases e : f' = f ∧ i' = i ∧ j' = j
  · rw [if_pos e, e.1, e.2.1, e.2.2, h]
  · rw [if_neg e]
theorem kJ5_init {ad : Nat → Nat → Nat} (hI : gI [(0, 0)] ad) (t : Nat → Nat) : gMetG l yJ5_init_d00df cJ5_init_d00df 2 none ({ frames := 1, cells := 1, slots := 16, locals := 60 } : Room) D [(0, 0)] (sKd 16 0) tc ad (fun _ _ _ _ => none) sa [.ref (ad 0 0), .int (nI 16)] (fun _ _ _ => 0) (sPo ad none t 0 16) := by
  refine gMetGi_of hI ⟨by decide +kernel, Nat.le_of_ble_eq_true rfl⟩ (fun p e s m args below meth c sz hr hlk hnm => ?_)
  show J p l e ({ frames := 1, cells := 1, slots := 16, locals := 60 } : Room) s m args below meth c cJ5_init_d00df 2 RJ5 D [(0, 0)] (sKd 16 0) tc ad (fun _ _ _ _ => none) sa (gA [(0, 0)] ad sz) s.heap 0 0 (MQ below (gQG D tc [(0, 0)] ad sz (sPo ad none t 0 16)) args s (1) (16) (gA [(0, 0)] ad sz)) (fun _ _ _ => 0) 0 [(0, .ref (ad 0 0)), (1, .int (nI 16))] []
  refine J_aload_n (i := 0) (q := 0) (pc1 := 1) dJ5_init_d00df_0 rfl rfl rfl ?_
  refine J_objInit (pc1 := 4) wlJ5_3 imObj cdObj ⟨Nat.le_of_ble_eq_true rfl, Nat.le_of_ble_eq_true rfl⟩ dJ5_init_d00df_1 rfl ?_
  refine J_compact (own := RJ5) (pc1 := 7) flJ5_18 dJ5_init_d00df_4 rfl ?_
  refine J_if_eq (tgt := 25) (pc1 := 10) dJ5_init_d00df_7 (by decide) (fun qq => absurd qq (by decide)) rfl (fun qq => ?_)
  refine J_aload_n (i := 0) (q := 0) (pc1 := 11) dJ5_init_d00df_10 rfl rfl rfl ?_
  refine J_iload_n (i := 1) (q := 1) (pc1 := 12) dJ5_init_d00df_11 rfl rfl rfl ?_
  refine J_newB (N := 16) (f0 := 1) (i0 := 0) (pc1 := 14) (by decide) rfl (fun f i row k _ => by simp) sbarB (nI_pos (by decide)) (nI_clamp (by decide)) (by decide) (Nat.le_refl _) (Nat.le_refl _) rfl dJ5_init_d00df_12 rfl (fun b hb => ?_)
  rw [show (Value.ref b) = .ref (gAd ad 1 0 b 1 0) from congrArg Value.ref gAd_at.symm, show (Value.ref (ad 0 0)) = .ref (gAd ad 1 0 b 0 0) from congrArg Value.ref (gAd_ne (by decide)).symm]
  have hI1 : gI ([(0, 0)] ++ [(1, 0)]) (gAd ad 1 0 b) := gI_snoc hI (by decide) hb
  refine J_putRN (T := TJ4) (f' := 1) (i' := 0) (pc1 := 17) sE0 hI1 rfl rfl inJ4 tyJ4 tyJ4_ok nmJ4 0 (by decide) rfl flJ5_15 rfl rfl rfl rfl dJ5_init_d00df_14 rfl ?_
  refine J_conv2 (E1 := sE) (kd1 := sKd 16 0) (ad1 := gAd ad 1 0 b) (rh1 := sRh) (μ1 := sM 0 0 (fun _ => 0)) hI1 (fun f i h => by rw [sM_0]; rcases sE_in h with ⟨rfl, rfl⟩ | ⟨rfl, rfl⟩ <;> exact ⟨_, _, h, rfl, rfl⟩) ?_
  refine J_aload_n (i := 0) (q := 0) (pc1 := 18) dJ5_init_d00df_17 rfl rfl rfl ?_
  refine J_iconst (v := 0) (pc1 := 19) dJ5_init_d00df_18 (by decide) rfl ?_
  refine J_putI (T := TJ4) (pc1 := 22) sE0 rfl rfl inJ4 tyJ4 tyJ4_ok nmJ4 1 (by decide) rfl (fun _ _ _ _ => rfl) flJ5_22 rfl rfl (rfl) (rfl) dJ5_init_d00df_19 rfl ?_
  rw [show w3 (sM 0 0 (fun _ => 0)) 0 0 1 0 = sM 0 0 (fun _ => 0) from by rw [sM_0]; exact w3_id rfl]
  refine J_goto (tgt := 38) dJ5_init_d00df_22 (by decide) ?_
  exact J_vretG hr hlk ⟨rfl, rfl, gAd_ne (by decide), ⟨0, rfl⟩, rfl, 0, _, rfl, fun j hj => absurd hj (Nat.not_lt_zero j), sb_fit0⟩ hI1 (Nat.le_refl _) (Nat.le_refl _) dJ5_init_d00df_38
theorem kJ4_init {ad : Nat → Nat → Nat} (hI : gI [(0, 0)] ad) (t : Nat → Nat) : gMetG l yJ4_init_da8c8 cJ4_init_da8c8 1 none ({ frames := 2, cells := 1, slots := 16, locals := 120 } : Room) D [(0, 0)] (sKd 16 0) tc ad (fun _ _ _ _ => none) sa [.ref (ad 0 0)] (fun _ _ _ => 0) (sPo ad none t 0 16) := by
  refine gMetGi_of hI ⟨by decide +kernel, Nat.le_of_ble_eq_true rfl⟩ (fun p e s m args below meth c sz hr hlk hnm => ?_)
  show J p l e ({ frames := 2, cells := 1, slots := 16, locals := 120 } : Room) s m args below meth c cJ4_init_da8c8 1 RJ4 D [(0, 0)] (sKd 16 0) tc ad (fun _ _ _ _ => none) sa (gA [(0, 0)] ad sz) s.heap 0 0 (MQ below (gQG D tc [(0, 0)] ad sz (sPo ad none t 0 16)) args s (1) (16) (gA [(0, 0)] ad sz)) (fun _ _ _ => 0) 0 [(0, .ref (ad 0 0))] []
  refine J_aload_n (i := 0) (q := 0) (pc1 := 1) dJ4_init_da8c8_0 rfl rfl rfl ?_
  refine J_bipush (v := 16) (pc1 := 3) dJ4_init_da8c8_1 (by decide) rfl ?_
  refine J_eqI (y := nI 16) (rfl) ?_
  refine J_runN (pc1 := 6) (ce := 1) (sl := 16) (J_hI (st := []) (As := [.int (nI 16)]) (kJ5_init l D tc sa hI t) wiJ4_1 rfl ⟨Nat.le_of_ble_eq_true rfl, Nat.le_of_ble_eq_true rfl⟩ ⟨Nat.le_refl _, Nat.le_refl _⟩ (Nat.le_of_ble_eq_true rfl) dJ4_init_da8c8_3) rfl rfl rfl (fun o1 E1 kd1 ad1 rh1 μ1 hp hI1 hfr => ?_)
  obtain ⟨rfl, rfl, h00, ⟨N1, rfl⟩, rfl, ml1, arr1, rfl, hL1, hf1⟩ := hp
  exact J_vretG hr hlk ⟨rfl, rfl, h00, ⟨N1, rfl⟩, rfl, ml1, arr1, rfl, hL1, hf1⟩ hI1 (Nat.le_refl _) (Nat.le_refl _) dJ4_init_da8c8_6
theorem kJ0_getBytes {ad : Nat → Nat → Nat} (hI : gI sE ad) {N n cp : Nat} (hm : cp ≤ 65536) (hnm : n ≤ cp) (μ : gM) : gMet l yJ0_getBytes_840e7 cJ0_getBytes_840e7 4 none ({ frames := 2, cells := 0, slots := 0, locals := 120 } : Room) D sE (sKd cp N) tc ad sRh sa [.ref (sa 96), .ref (ad 1 0), .int (nI n), .int 0] μ none μ := by
  refine gMet_of hI ⟨by decide +kernel, Nat.le_of_ble_eq_true rfl⟩ (fun p e s m args below meth c sz hr hlk => ?_)
  show J p l e ({ frames := 2, cells := 0, slots := 0, locals := 120 } : Room) s m args below meth c cJ0_getBytes_840e7 4 RJ0 D sE (sKd cp N) tc ad sRh sa (gA sE ad sz) s.heap 0 0 _ μ 0 [(0, .ref (sa 96)), (1, .ref (ad 1 0)), (2, .int (nI n)), (3, .int 0)] []
  refine J_aload_n (i := 0) (q := 0) (pc1 := 1) dJ0_getBytes_840e7_0 rfl rfl rfl ?_
  refine J_callK (w := 32) (As := []) (pc1 := 4) (st := []) (st1 := .int 0 :: []) ⟨by decide, by decide⟩ (kJ0_coder l D sE (sKd cp N) tc sa _ sRh hI _ ⟨by decide, by decide⟩) wcJ0_coder_7d493 wlJ0_335 rfl rfl ⟨rfl, rfl, Nat.le_of_ble_eq_true rfl, Nat.le_of_ble_eq_true rfl⟩ ⟨Nat.zero_le _, Nat.zero_le _⟩ (Nat.le_of_ble_eq_true rfl) dJ0_getBytes_840e7_1 rfl rfl ?_
  refine J_iload_n (i := 3) (q := 3) (pc1 := 5) dJ0_getBytes_840e7_4 rfl rfl rfl ?_
  refine J_icmp_ne (tgt := 28) (pc1 := 8) dJ0_getBytes_840e7_5 (by decide) (fun qq => absurd qq (fun z => z rfl)) rfl (fun qq => ?_)
  refine J_aload_n (i := 0) (q := 0) (pc1 := 9) dJ0_getBytes_840e7_8 rfl rfl rfl ?_
  refine J_strVal (w := 32) (pc1 := 12) ⟨by decide, by decide⟩ flJ0_9 dJ0_getBytes_840e7_9 rfl ?_
  refine J_iconst (v := 0) (pc1 := 13) dJ0_getBytes_840e7_12 (by decide) rfl ?_
  refine J_aload_n (i := 1) (q := 1) (pc1 := 14) dJ0_getBytes_840e7_13 rfl rfl rfl ?_
  refine J_iload_n (i := 2) (q := 2) (pc1 := 15) dJ0_getBytes_840e7_14 rfl rfl rfl ?_
  refine J_iload_n (i := 3) (q := 3) (pc1 := 16) dJ0_getBytes_840e7_15 rfl rfl rfl ?_
  refine J_ishl (pc1 := 17) dJ0_getBytes_840e7_16 rfl ?_
  refine J_eqI (y := nI n) (sb_shl0 _) ?_
  refine J_aload_n (i := 0) (q := 0) (pc1 := 18) dJ0_getBytes_840e7_17 rfl rfl rfl ?_
  refine J_strVal (w := 32) (pc1 := 21) ⟨by decide, by decide⟩ flJ0_9 dJ0_getBytes_840e7_18 rfl ?_
  refine J_strLen (w := 32) (v := 0) (pc1 := 22) ⟨by decide, by decide⟩ rfl dJ0_getBytes_840e7_21 rfl ?_
  refine J_copyT (w := 32) (f1 := 1) (i1 := 0) (n1 := cp) (pc1 := 25) ⟨by decide, by decide⟩ rfl sE1 rfl wlJ0_212 acNat acSt iniSys (by decide) (nI_pos (by omega)) (by decide) (by decide) (by rw [nI_clamp (by omega), sb_cl0]; omega) ⟨Nat.le_of_ble_eq_true rfl, Nat.le_of_ble_eq_true rfl⟩ dJ0_getBytes_840e7_22 rfl ?_
  refine J_goto (tgt := 43) dJ0_getBytes_840e7_25 (by decide) ?_
  exact J_vret hr hlk dJ0_getBytes_840e7_43
theorem kJ5_inflateIf {ad : Nat → Nat → Nat} (hI : gI sE ad) {N n cp : Nat} {ml : Int32} {arr : Nat → Int32} : gMetG l yJ5_inflateIfNeededFor_a7421 cJ5_inflateIfNeededFor_a7421 2 none ({ frames := 1, cells := 0, slots := 0, locals := 80 } : Room) D sE (sKd cp N) tc ad sRh sa [.ref (ad 0 0), .ref (sa 96)] (sM n ml arr) (gSame sE (sKd cp N) ad sRh none (sM n ml arr)) := by
  refine gMetG_of hI ⟨by decide +kernel, Nat.le_of_ble_eq_true rfl⟩ (fun p e s m args below meth c sz hr hlk => ?_)
  show J p l e ({ frames := 1, cells := 0, slots := 0, locals := 80 } : Room) s m args below meth c cJ5_inflateIfNeededFor_a7421 2 RJ5 D sE (sKd cp N) tc ad sRh sa (gA sE ad sz) s.heap 0 0 (MQ below (gQG D tc sE ad sz (gSame sE (sKd cp N) ad sRh none (sM n ml arr))) args s (0) (0) (gA sE ad sz)) (sM n ml arr) 0 [(0, .ref (ad 0 0)), (1, .ref (sa 96))] []
  refine J_compact (own := RJ5) (pc1 := 3) flJ5_18 dJ5_inflateIfNeededFor_a7421_0 rfl ?_
  refine J_if_eq (tgt := 21) (pc1 := 6) dJ5_inflateIfNeededFor_a7421_3 (by decide) (fun qq => absurd qq (by decide)) rfl (fun qq => ?_)
  refine J_aload_n (i := 0) (q := 0) (pc1 := 7) dJ5_inflateIfNeededFor_a7421_6 rfl rfl rfl ?_
  refine J_getV (T := TJ4) (pc1 := 10) 1 (v := 0) (rfl) sE0 rfl rfl inJ4 (by decide) rfl flJ5_22 rfl dJ5_inflateIfNeededFor_a7421_7 rfl ?_
  refine J_aload_n (i := 1) (q := 1) (pc1 := 11) dJ5_inflateIfNeededFor_a7421_10 rfl rfl rfl ?_
  refine J_callK (w := 32) (As := []) (pc1 := 14) (st := [.int 0]) (st1 := .int 0 :: [.int 0]) ⟨by decide, by decide⟩ (kJ0_coder l D sE (sKd cp N) tc sa _ sRh hI _ ⟨by decide, by decide⟩) wcJ0_coder_7d493 wlJ5_40 rfl rfl ⟨rfl, rfl, Nat.le_of_ble_eq_true rfl, Nat.le_of_ble_eq_true rfl⟩ ⟨Nat.zero_le _, Nat.zero_le _⟩ (Nat.le_of_ble_eq_true rfl) dJ5_inflateIfNeededFor_a7421_11 rfl rfl ?_
  refine J_icmp_eq (tgt := 21) (pc1 := 17) dJ5_inflateIfNeededFor_a7421_14 (by decide) (fun qq => ?_) rfl (fun qq => absurd (rfl) qq)
  exact J_vretG hr hlk ⟨rfl, rfl, rfl, rfl, rfl, rfl⟩ hI (Nat.le_refl _) (Nat.le_refl _) dJ5_inflateIfNeededFor_a7421_21
theorem kJ5_putString {ad : Nat → Nat → Nat} (hI : gI sE ad) {N n cp : Nat} {ml : Int32} {arr : Nat → Int32} (hm : cp ≤ 65536) (hnm : n ≤ cp) : gMetG l yJ5_putStringAt_47b60 cJ5_putStringAt_47b60 3 none ({ frames := 4, cells := 0, slots := 0, locals := 200 } : Room) D sE (sKd cp N) tc ad sRh sa [.ref (ad 0 0), .int (nI n), .ref (sa 96)] (sM n ml arr) (gSame sE (sKd cp N) ad sRh none (sM n ml arr)) := by
  refine gMetG_of hI ⟨by decide +kernel, Nat.le_of_ble_eq_true rfl⟩ (fun p e s m args below meth c sz hr hlk => ?_)
  show J p l e ({ frames := 4, cells := 0, slots := 0, locals := 200 } : Room) s m args below meth c cJ5_putStringAt_47b60 3 RJ5 D sE (sKd cp N) tc ad sRh sa (gA sE ad sz) s.heap 0 0 (MQ below (gQG D tc sE ad sz (gSame sE (sKd cp N) ad sRh none (sM n ml arr))) args s (0) (0) (gA sE ad sz)) (sM n ml arr) 0 [(0, .ref (ad 0 0)), (1, .int (nI n)), (2, .ref (sa 96))] []
  refine J_aload_n (i := 0) (q := 0) (pc1 := 1) dJ5_putStringAt_47b60_0 rfl rfl rfl ?_
  refine J_aload_n (i := 2) (q := 2) (pc1 := 2) dJ5_putStringAt_47b60_1 rfl rfl rfl ?_
  refine J_runM (o := none) (pc1 := 5) (st1 := []) (J_hU (st := []) (As := [.ref (sa 96)]) (kJ5_inflateIf l D tc sa hI (N := N) (n := n) (cp := cp) (ml := ml) (arr := arr)) wuJ5_397 (fun hb => hb _ slb3) rfl sE0 rfl rfl rfl ⟨Nat.le_of_ble_eq_true rfl, Nat.le_of_ble_eq_true rfl⟩ ⟨Nat.le_refl _, Nat.le_refl _⟩ (Nat.le_of_ble_eq_true rfl) dJ5_putStringAt_47b60_2) rfl rfl rfl rfl ?_
  refine J_aload_n (i := 2) (q := 2) (pc1 := 6) dJ5_putStringAt_47b60_5 rfl rfl rfl ?_
  refine J_aload_n (i := 0) (q := 0) (pc1 := 7) dJ5_putStringAt_47b60_6 rfl rfl rfl ?_
  refine J_getR (T := TJ4) (f' := 1) (i' := 0) (pc1 := 10) sE0 rfl rfl inJ4 0 (by decide) rfl (rfl) flJ5_15 rfl dJ5_putStringAt_47b60_7 rfl ?_
  refine J_iload_n (i := 1) (q := 1) (pc1 := 11) dJ5_putStringAt_47b60_10 rfl rfl rfl ?_
  refine J_aload_n (i := 0) (q := 0) (pc1 := 12) dJ5_putStringAt_47b60_11 rfl rfl rfl ?_
  refine J_getV (T := TJ4) (pc1 := 15) 1 (v := 0) (rfl) sE0 rfl rfl inJ4 (by decide) rfl flJ5_22 rfl dJ5_putStringAt_47b60_12 rfl ?_
  refine J_callK (w := 32) (As := [.ref (ad 1 0), .int (nI n), .int 0]) (pc1 := 18) (st := []) (st1 := []) ⟨by decide, by decide⟩ (kJ0_getBytes l D tc sa hI hm hnm _) wcJ0_getBytes_840e7 wlJ5_399 rfl rfl ⟨rfl, rfl, Nat.le_of_ble_eq_true rfl, Nat.le_of_ble_eq_true rfl⟩ ⟨Nat.zero_le _, Nat.zero_le _⟩ (Nat.le_of_ble_eq_true rfl) dJ5_putStringAt_47b60_15 rfl rfl ?_
  exact J_vretG hr hlk ⟨rfl, rfl, rfl, rfl, rfl, rfl⟩ hI (Nat.le_refl _) (Nat.le_refl _) dJ5_putStringAt_47b60_18
theorem kJ5_appendE {ad : Nat → Nat → Nat} (hI : gI sE ad) {N n cp : Nat} {ml : Int32} {arr : Nat → Int32} {t : Nat → Nat} (hm : cp ≤ 65536) (hnm : n ≤ cp) (hL : sb_Lat t n arr) (hf : sb_Fit arr) : gMetG l yJ5_append_cf1ce cJ5_append_cf1ce 3 (some (.object "java/lang/AbstractStringBuilder")) ({ frames := 6, cells := 0, slots := 0, locals := 400 } : Room) D sE (sKd cp N) tc ad sRh sa [.ref (ad 0 0), .ref (sa 96)] (sM n ml arr) (sPo ad (some (.ref (ad 0 0))) t n cp) := by
  refine gMetG_of hI ⟨by decide +kernel, Nat.le_of_ble_eq_true rfl⟩ (fun p e s m args below meth c sz hr hlk => ?_)
  show J p l e ({ frames := 6, cells := 0, slots := 0, locals := 400 } : Room) s m args below meth c cJ5_append_cf1ce 3 RJ5 D sE (sKd cp N) tc ad sRh sa (gA sE ad sz) s.heap 0 0 (MQ below (gQG D tc sE ad sz (sPo ad (some (.ref (ad 0 0))) t n cp)) args s (0) (0) (gA sE ad sz)) (sM n ml arr) 0 [(0, .ref (ad 0 0)), (1, .ref (sa 96))] []
  refine J_aload_n (i := 1) (q := 1) (pc1 := 1) dJ5_append_cf1ce_0 rfl rfl rfl ?_
  refine J_ifnn (tgt := 9) dJ5_append_cf1ce_1 (by decide) ?_
  refine J_aload_n (i := 1) (q := 1) (pc1 := 10) dJ5_append_cf1ce_9 rfl rfl rfl ?_
  refine J_callK (w := 32) (As := []) (pc1 := 13) (st := []) (st1 := [.int 0]) ⟨by decide, by decide⟩ (kJ0_length l D sE (sKd cp N) tc sa _ sRh hI _ ⟨by decide, by decide⟩) wcJ0_length_8abf5 wlJ5_32 rfl rfl ⟨rfl, rfl, Nat.le_of_ble_eq_true rfl, Nat.le_of_ble_eq_true rfl⟩ ⟨Nat.zero_le _, Nat.zero_le _⟩ (Nat.le_of_ble_eq_true rfl) dJ5_append_cf1ce_10 rfl rfl ?_
  refine J_istore_n (i := 2) (lv1 := [(2, .int 0), (0, .ref (ad 0 0)), (1, .ref (sa 96))]) (pc1 := 14) dJ5_append_cf1ce_13 rfl (by decide) rfl rfl ?_
  refine J_aload_n (i := 0) (q := 1) (pc1 := 15) dJ5_append_cf1ce_14 rfl rfl rfl ?_
  refine J_aload_n (i := 0) (q := 1) (pc1 := 16) dJ5_append_cf1ce_15 rfl rfl rfl ?_
  refine J_getV (T := TJ4) (pc1 := 19) 3 (v := nI n) (rfl) sE0 rfl rfl inJ4 (by decide) rfl flJ5_79 rfl dJ5_append_cf1ce_16 rfl ?_
  refine J_iload_n (i := 2) (q := 0) (pc1 := 20) dJ5_append_cf1ce_19 rfl rfl rfl ?_
  refine J_iadd (pc1 := 21) dJ5_append_cf1ce_20 rfl ?_
  refine J_eqI (y := nI n) (Int32.add_zero _) ?_
  have e0 : sMc n cp = 0 := if_pos hnm
  have e1 : sMs n cp = 0 := if_pos hnm
  have e2 : sb_cap n cp = cp := if_pos hnm
  have hc0 : 0 + sMc n cp = 0 := by rw [e0]
  have hc1 : 0 + sMs n cp = 0 := by rw [e1]
  refine J_runN (pc1 := 24) (ce := 0) (sl := 0) (J_hU (st := []) (As := [.int (nI n)]) (kJ5_ensure l D tc sa hI (N := N) (q := n) (t := t) hm (by omega) hnm hL hf) wuJ5_100 (fun hb => hb _ slb0) rfl sE0 rfl rfl rfl ⟨Nat.le_of_ble_eq_true rfl, Nat.le_of_ble_eq_true rfl⟩ ⟨Nat.le_of_eq hc0, Nat.le_of_eq hc1⟩ (Nat.le_of_ble_eq_true rfl) dJ5_append_cf1ce_21) rfl hc0 hc1 (fun o1 E1 kd1 ad1 rh1 μ1 hp hI1 hfr => ?_)
  obtain ⟨rfl, rfl, h00, ⟨N1, rfl⟩, rfl, ml1, arr1, rfl, hL1, hf1⟩ := hp
  rw [e2]
  show J p l e _ s m args below meth c _ 3 RJ5 D _ _ tc ad1 sRh sa _ s.heap 0 0 _ _ 24 [(2, .int 0), (0, .ref (ad 0 0)), (1, .ref (sa 96))] []
  rw [show (Value.ref (ad 0 0)) = .ref (ad1 0 0) from congrArg Value.ref h00.symm]
  refine J_aload_n (i := 0) (q := 1) (pc1 := 25) dJ5_append_cf1ce_24 rfl rfl rfl ?_
  refine J_aload_n (i := 0) (q := 1) (pc1 := 26) dJ5_append_cf1ce_25 rfl rfl rfl ?_
  refine J_getV (T := TJ4) (pc1 := 29) 3 (v := nI n) (rfl) sE0 rfl rfl inJ4 (by decide) rfl flJ5_79 rfl dJ5_append_cf1ce_26 rfl ?_
  refine J_aload_n (i := 1) (q := 2) (pc1 := 30) dJ5_append_cf1ce_29 rfl rfl rfl ?_
  refine J_runM (o := none) (pc1 := 33) (st1 := []) (J_hU (st := []) (As := [.int (nI n), .ref (sa 96)]) (kJ5_putString l D tc sa hI1 (N := N1) (n := n) (ml := ml1) (arr := arr1) hm hnm) wuJ5_208 (fun hb => hb _ slb2) rfl sE0 rfl rfl rfl ⟨Nat.le_of_ble_eq_true rfl, Nat.le_of_ble_eq_true rfl⟩ ⟨Nat.le_refl _, Nat.le_refl _⟩ (Nat.le_of_ble_eq_true rfl) dJ5_append_cf1ce_30) rfl rfl rfl rfl ?_
  refine J_aload_n (i := 0) (q := 1) (pc1 := 34) dJ5_append_cf1ce_33 rfl rfl rfl ?_
  refine J_dup (pc1 := 35) dJ5_append_cf1ce_34 rfl rfl ?_
  refine J_getV (T := TJ4) (pc1 := 38) 3 (v := nI n) (rfl) sE0 rfl rfl inJ4 (by decide) rfl flJ5_79 rfl dJ5_append_cf1ce_35 rfl ?_
  refine J_iload_n (i := 2) (q := 0) (pc1 := 39) dJ5_append_cf1ce_38 rfl rfl rfl ?_
  refine J_iadd (pc1 := 40) dJ5_append_cf1ce_39 rfl ?_
  refine J_eqI (y := nI n) (Int32.add_zero _) ?_
  refine J_putI (T := TJ4) (pc1 := 43) sE0 rfl rfl inJ4 tyJ4 tyJ4_ok nmJ4 3 (by decide) rfl (fun _ _ _ _ => rfl) flJ5_79 rfl rfl (rfl) (rfl) dJ5_append_cf1ce_40 rfl ?_
  rw [show w3 _ 0 0 3 _ = sM n ml1 arr1 from sM_cnt]
  refine J_aload_n (i := 0) (q := 1) (pc1 := 44) dJ5_append_cf1ce_43 rfl rfl rfl ?_
  exact J_aretG hr hlk ⟨rfl, rfl, h00, ⟨N1, rfl⟩, rfl, ml1, arr1, rfl, hL1, hf1⟩ hI1 (Nat.le_refl _) (Nat.le_refl _) dJ5_append_cf1ce_44
theorem kJ4_appendE {ad : Nat → Nat → Nat} (hI : gI sE ad) {N n cp : Nat} {ml : Int32} {arr : Nat → Int32} {t : Nat → Nat} (hm : cp ≤ 65536) (hnm : n ≤ cp) (hL : sb_Lat t n arr) (hf : sb_Fit arr) : gMetG l yJ4_append_15ec4 cJ4_append_15ec4 2 (some (.object "java/lang/StringBuilder")) ({ frames := 7, cells := 0, slots := 0, locals := 500 } : Room) D sE (sKd cp N) tc ad sRh sa [.ref (ad 0 0), .ref (sa 96)] (sM n ml arr) (sPo ad (some (.ref (ad 0 0))) t n cp) := by
  refine gMetG_of hI ⟨by decide +kernel, Nat.le_of_ble_eq_true rfl⟩ (fun p e s m args below meth c sz hr hlk => ?_)
  show J p l e ({ frames := 7, cells := 0, slots := 0, locals := 500 } : Room) s m args below meth c cJ4_append_15ec4 2 RJ4 D sE (sKd cp N) tc ad sRh sa (gA sE ad sz) s.heap 0 0 (MQ below (gQG D tc sE ad sz (sPo ad (some (.ref (ad 0 0))) t n cp)) args s (0) (0) (gA sE ad sz)) (sM n ml arr) 0 [(0, .ref (ad 0 0)), (1, .ref (sa 96))] []
  refine J_aload_n (i := 0) (q := 0) (pc1 := 1) dJ4_append_15ec4_0 rfl rfl rfl ?_
  refine J_aload_n (i := 1) (q := 1) (pc1 := 2) dJ4_append_15ec4_1 rfl rfl rfl ?_
  refine J_runN (pc1 := 5) (ce := 0) (sl := 0) (J_hSU (st := []) (As := [.ref (sa 96)]) (kJ5_appendE l D tc sa hI (N := N) (t := t) hm hnm hL hf) wpJ4_29 rfl sE0 rfl rfl rfl ⟨Nat.le_of_ble_eq_true rfl, Nat.le_of_ble_eq_true rfl⟩ ⟨Nat.le_refl _, Nat.le_refl _⟩ (Nat.le_of_ble_eq_true rfl) dJ4_append_15ec4_2) rfl rfl rfl (fun o1 E1 kd1 ad1 rh1 μ1 hp hI1 hfr => ?_)
  obtain ⟨rfl, rfl, h00, ⟨N1, rfl⟩, rfl, ml1, arr1, rfl, hL1, hf1⟩ := hp
  show J p l e _ s m args below meth c _ 2 RJ4 D _ _ tc ad1 sRh sa _ s.heap 0 0 _ _ 5 [(0, .ref (ad 0 0)), (1, .ref (sa 96))] [.ref (ad 0 0)]
  refine J_pop (pc1 := 6) dJ4_append_15ec4_5 rfl rfl ?_
  refine J_aload_n (i := 0) (q := 0) (pc1 := 7) dJ4_append_15ec4_6 rfl rfl rfl ?_
  exact J_aretG hr hlk ⟨rfl, rfl, h00, ⟨N1, rfl⟩, rfl, ml1, arr1, rfl, hL1, hf1⟩ hI1 (Nat.le_refl _) (Nat.le_refl _) dJ4_append_15ec4_7
theorem kJ7_checkLength {E : List (Nat × Nat)} {kd : Nat → gKd} {ad : Nat → Nat → Nat} {rh : gRh} (hI : gI E ad) (μ : gM) {n : Nat} (hn : n ≤ 65536) : gMet l yJ7_checkLength_df160 cJ7_checkLength_df160 2 none ({ frames := 0, cells := 0, slots := 0, locals := 20 } : Room) D E kd tc ad rh sa [.int 0, .int (nI n)] μ none μ := by
  refine gMet_of hI ⟨by decide +kernel, Nat.le_of_ble_eq_true rfl⟩ (fun p e s m args below meth c sz hr hlk => ?_)
  show J p l e ({ frames := 0, cells := 0, slots := 0, locals := 20 } : Room) s m args below meth c cJ7_checkLength_df160 2 RJ7 D E kd tc ad rh sa (gA E ad sz) s.heap 0 0 _ μ 0 [(0, .int 0), (1, .int (nI n))] []
  refine J_iload_n (i := 1) (q := 1) (pc1 := 1) dJ7_checkLength_df160_0 rfl rfl rfl ?_
  refine J_iload_n (i := 0) (q := 0) (pc1 := 2) dJ7_checkLength_df160_1 rfl rfl rfl ?_
  refine J_icmp_ge (tgt := 37) (pc1 := 5) dJ7_checkLength_df160_2 (by decide) (fun qq => ?_) rfl (fun qq => absurd (nI_pos' (by omega)) qq)
  exact J_vret hr hlk dJ7_checkLength_df160_37
def tPc (ad : Nat → Nat → Nat) (n cp : Nat) (ml : Int32) (arr : Nat → Int32) : gPo := fun o1 E1 kd1 ad1 rh1 μ1 =>
  E1 = tE ++ [(3, 0)] ∧ kd1 = tKd cp n ∧ rh1 = sRh ∧ μ1 = tM n ml arr (va_cpy arr (fun _ => 0) 0 0 n) ∧ o1 = some (.ref (ad1 3 0)) ∧ ad1 0 0 = ad 0 0 ∧ ad1 1 0 = ad 1 0 ∧ ad1 2 0 = ad 2 0
theorem kJ7_copyOfRangeByte {ad : Nat → Nat → Nat} (hI : gI tE ad) {n cp : Nat} {ml : Int32} {arr : Nat → Int32} (hm : cp ≤ 65536) (hnm : n < cp) (hf : sb_Fit arr) : gMetG l yJ7_copyOfRangeByte_39247 cJ7_copyOfRangeByte_39247 5 (some (.array .byte)) ({ frames := 1, cells := 1, slots := n, locals := 120 } : Room) D tE (tKd cp n) tc ad sRh sa [.ref (ad 1 0), .int 0, .int (nI n)] (sM n ml arr) (tPc ad n cp ml arr) := by
  refine gMetG_of hI ⟨by decide +kernel, Nat.le_of_ble_eq_true rfl⟩ (fun p e s m args below meth c sz hr hlk => ?_)
  show J p l e ({ frames := 1, cells := 1, slots := n, locals := 120 } : Room) s m args below meth c cJ7_copyOfRangeByte_39247 5 RJ7 D tE (tKd cp n) tc ad sRh sa (gA tE ad sz) s.heap 0 0 (MQ below (gQG D tc tE ad sz (tPc ad n cp ml arr)) args s (1) (n) (gA tE ad sz)) (sM n ml arr) 0 [(0, .ref (ad 1 0)), (1, .int 0), (2, .int (nI n))] []
  refine J_iload_n (i := 1) (q := 1) (pc1 := 1) dJ7_copyOfRangeByte_39247_0 rfl rfl rfl ?_
  refine J_iload_n (i := 2) (q := 2) (pc1 := 2) dJ7_copyOfRangeByte_39247_1 rfl rfl rfl ?_
  refine J_callS (As := [.int 0, .int (nI n)]) (pc1 := 5) (st := []) (st1 := []) (kJ7_checkLength l D tc sa hI _ (by omega)) wcJ7_checkLength_df160 wlJ7_343 rfl ⟨rfl, rfl, Nat.le_of_ble_eq_true rfl, Nat.le_of_ble_eq_true rfl⟩ ⟨Nat.zero_le _, Nat.zero_le _⟩ (Nat.le_of_ble_eq_true rfl) dJ7_copyOfRangeByte_39247_2 rfl rfl ?_
  refine J_iload_n (i := 2) (q := 2) (pc1 := 6) dJ7_copyOfRangeByte_39247_5 rfl rfl rfl ?_
  refine J_iload_n (i := 1) (q := 1) (pc1 := 7) dJ7_copyOfRangeByte_39247_6 rfl rfl rfl ?_
  refine J_isub (pc1 := 8) dJ7_copyOfRangeByte_39247_7 rfl ?_
  refine J_eqI (y := nI n) (Int32.sub_zero _) ?_
  refine J_istore_n (i := 3) (lv1 := [(3, .int (nI n)), (0, .ref (ad 1 0)), (1, .int 0), (2, .int (nI n))]) (pc1 := 9) dJ7_copyOfRangeByte_39247_8 rfl (by decide) rfl rfl ?_
  refine J_iload_n (i := 3) (q := 0) (pc1 := 10) dJ7_copyOfRangeByte_39247_9 rfl rfl rfl ?_
  refine J_newB (N := n) (f0 := 3) (i0 := 0) (pc1 := 12) (by decide) rfl (fun f i row k _ => by unfold sRh; split <;> simp) sbarB (nI_pos (by omega)) (nI_clamp (by omega)) (by show n * 1 ≤ _; omega) (Nat.le_refl _) (by show 0 + n ≤ n; omega) (by funext k; rfl) dJ7_copyOfRangeByte_39247_10 rfl (fun b hb => ?_)
  rw [show (Value.ref b) = .ref (gAd ad 3 0 b 3 0) from congrArg Value.ref gAd_at.symm, show (Value.ref (ad 1 0)) = .ref (gAd ad 3 0 b 1 0) from congrArg Value.ref (gAd_ne (by decide)).symm]
  refine J_astore (i := 4) (lv1 := [(4, .ref (gAd ad 3 0 b 3 0)), (3, .int (nI n)), (0, .ref (gAd ad 3 0 b 1 0)), (1, .int 0), (2, .int (nI n))]) (pc1 := 14) dJ7_copyOfRangeByte_39247_12 (by decide) rfl rfl ?_
  refine J_aload_n (i := 0) (q := 2) (pc1 := 15) dJ7_copyOfRangeByte_39247_14 rfl rfl rfl ?_
  refine J_iload_n (i := 1) (q := 3) (pc1 := 16) dJ7_copyOfRangeByte_39247_15 rfl rfl rfl ?_
  refine J_aload (i := 4) (q := 0) (pc1 := 18) dJ7_copyOfRangeByte_39247_16 rfl rfl ?_
  refine J_iconst (v := 0) (pc1 := 19) dJ7_copyOfRangeByte_39247_18 (by decide) rfl ?_
  refine J_aload_n (i := 0) (q := 2) (pc1 := 20) dJ7_copyOfRangeByte_39247_19 rfl rfl rfl ?_
  refine J_alen (ty := .byte) (v := nI cp) (pc1 := 21) (List.mem_append_left _ tE1) rfl rfl (rfl) dJ7_copyOfRangeByte_39247_20 rfl ?_
  refine J_iload_n (i := 1) (q := 3) (pc1 := 22) dJ7_copyOfRangeByte_39247_21 rfl rfl rfl ?_
  refine J_isub (pc1 := 23) dJ7_copyOfRangeByte_39247_22 rfl ?_
  refine J_eqI (y := nI cp) (Int32.sub_zero _) ?_
  refine J_iload_n (i := 3) (q := 1) (pc1 := 24) dJ7_copyOfRangeByte_39247_23 rfl rfl rfl ?_
  refine J_mmin (pc1 := 27) sbwlMin sbstMin sbiniMath sbcdMin ⟨Nat.le_of_ble_eq_true rfl, Nat.le_of_ble_eq_true rfl, by show 0 + 1 ≤ 1; omega, by show 0 + n ≤ n; omega⟩ dJ7_copyOfRangeByte_39247_24 rfl ?_
  refine J_eqI (y := nI n) (if_pos (nI_lt hnm (by omega))) ?_
  refine J_copyB (f := 1) (i := 0) (f1 := 3) (i1 := 0) (n0 := cp) (n1 := n) (μ' := tM n ml arr (va_cpy arr (fun _ => 0) 0 0 n)) (pc1 := 30) (List.mem_append_left _ tE1) rfl (List.mem_append_right _ List.mem_cons_self) rfl wlJ7_150 acNat acSt iniSys (by decide) (by decide) (nI_pos (by omega)) (by rw [nI_clamp (by omega), sb_cl0]; omega) (by rw [nI_clamp (by omega), sb_cl0]; omega) (fun j _ => hf _) (by rw [nI_clamp (by omega), sb_cl0]; rfl) (fun f' i' h => tM_ne h) ⟨Nat.le_of_ble_eq_true rfl, Nat.le_of_ble_eq_true rfl⟩ dJ7_copyOfRangeByte_39247_27 rfl ?_
  refine J_aload (i := 4) (q := 0) (pc1 := 32) dJ7_copyOfRangeByte_39247_30 rfl rfl ?_
  exact J_aretB hr hlk ⟨rfl, rfl, rfl, rfl, rfl, gAd_ne (by decide), gAd_ne (by decide), gAd_ne (by decide)⟩ (gI_snoc hI (by decide) hb) (Nat.le_refl _) (by show 0 + n ≤ n; omega) dJ7_copyOfRangeByte_39247_32
theorem kJ7_copyOfRange {ad : Nat → Nat → Nat} (hI : gI tE ad) {n cp : Nat} {ml : Int32} {arr : Nat → Int32} (hm : cp ≤ 65536) (hnm : n < cp) (hf : sb_Fit arr) : gMetG l yJ7_copyOfRange_39247 cJ7_copyOfRange_39247 3 (some (.array .byte)) ({ frames := 2, cells := 1, slots := n, locals := 160 } : Room) D tE (tKd cp n) tc ad sRh sa [.ref (ad 1 0), .int 0, .int (nI n)] (sM n ml arr) (tPc ad n cp ml arr) := by
  refine gMetG_of hI ⟨by decide +kernel, Nat.le_of_ble_eq_true rfl⟩ (fun p e s m args below meth c sz hr hlk => ?_)
  show J p l e ({ frames := 2, cells := 1, slots := n, locals := 160 } : Room) s m args below meth c cJ7_copyOfRange_39247 3 RJ7 D tE (tKd cp n) tc ad sRh sa (gA tE ad sz) s.heap 0 0 (MQ below (gQG D tc tE ad sz (tPc ad n cp ml arr)) args s (1) (n) (gA tE ad sz)) (sM n ml arr) 0 [(0, .ref (ad 1 0)), (1, .int 0), (2, .int (nI n))] []
  refine J_iload_n (i := 1) (q := 1) (pc1 := 1) dJ7_copyOfRange_39247_0 rfl rfl rfl ?_
  refine J_if_ne (tgt := 10) (pc1 := 4) dJ7_copyOfRange_39247_1 (by decide) (fun qq => absurd qq (fun z => z rfl)) rfl (fun qq => ?_)
  refine J_iload_n (i := 2) (q := 2) (pc1 := 5) dJ7_copyOfRange_39247_4 rfl rfl rfl ?_
  refine J_aload_n (i := 0) (q := 0) (pc1 := 6) dJ7_copyOfRange_39247_5 rfl rfl rfl ?_
  refine J_alen (ty := .byte) (v := nI cp) (pc1 := 7) tE1 rfl rfl (rfl) dJ7_copyOfRange_39247_6 rfl ?_
  refine J_icmp_eq (tgt := 17) (pc1 := 10) dJ7_copyOfRange_39247_7 (by decide) (fun qq => absurd qq (fun z => by have := (nI_eq (by omega) (by omega)).mp z; omega)) rfl (fun qq => ?_)
  refine J_aload_n (i := 0) (q := 0) (pc1 := 11) dJ7_copyOfRange_39247_10 rfl rfl rfl ?_
  refine J_iload_n (i := 1) (q := 1) (pc1 := 12) dJ7_copyOfRange_39247_11 rfl rfl rfl ?_
  refine J_iload_n (i := 2) (q := 2) (pc1 := 13) dJ7_copyOfRange_39247_12 rfl rfl rfl ?_
  refine J_runN (pc1 := 16) (ce := 1) (sl := n) (J_hS (st := []) (As := [.ref (ad 1 0), .int 0, .int (nI n)]) (kJ7_copyOfRangeByte l D tc sa hI hm hnm hf) wcJ7_copyOfRangeByte_39247 wlJ7_339 rfl ⟨Nat.le_of_ble_eq_true rfl, Nat.le_of_ble_eq_true rfl⟩ ⟨Nat.le_refl _, by show 0 + n ≤ n; omega⟩ (Nat.le_of_ble_eq_true rfl) dJ7_copyOfRange_39247_13) rfl rfl (Nat.zero_add _) (fun o1 E1 kd1 ad1 rh1 μ1 hp hI1 hfr => ?_)
  obtain ⟨rfl, rfl, rfl, rfl, rfl, h00, h10, h20⟩ := hp
  exact J_aretB hr hlk ⟨rfl, rfl, rfl, rfl, rfl, h00, h10, h20⟩ hI1 (Nat.le_refl _) (Nat.le_refl _) dJ7_copyOfRange_39247_16
theorem kJ5_getValue {ad : Nat → Nat → Nat} (hI : gI sE ad) {N n cp : Nat} {ml : Int32} {arr : Nat → Int32} : gMetG l yJ5_getValue_6d5f1 cJ5_getValue_6d5f1 1 (some (.array .byte)) ({ frames := 0, cells := 0, slots := 0, locals := 20 } : Room) D sE (sKd cp N) tc ad sRh sa [.ref (ad 0 0)] (sM n ml arr) (gSame sE (sKd cp N) ad sRh (some (.ref (ad 1 0))) (sM n ml arr)) := by
  refine gMetG_of hI ⟨by decide +kernel, Nat.le_of_ble_eq_true rfl⟩ (fun p e s m args below meth c sz hr hlk => ?_)
  show J p l e ({ frames := 0, cells := 0, slots := 0, locals := 20 } : Room) s m args below meth c cJ5_getValue_6d5f1 1 RJ5 D sE (sKd cp N) tc ad sRh sa (gA sE ad sz) s.heap 0 0 (MQ below (gQG D tc sE ad sz (gSame sE (sKd cp N) ad sRh (some (.ref (ad 1 0))) (sM n ml arr))) args s (0) (0) (gA sE ad sz)) (sM n ml arr) 0 [(0, .ref (ad 0 0))] []
  refine J_aload_n (i := 0) (q := 0) (pc1 := 1) dJ5_getValue_6d5f1_0 rfl rfl rfl ?_
  refine J_getR (T := TJ4) (f' := 1) (i' := 0) (pc1 := 4) sE0 rfl rfl inJ4 0 (by decide) rfl (rfl) flJ5_15 rfl dJ5_getValue_6d5f1_1 rfl ?_
  exact J_aretB hr hlk ⟨rfl, rfl, rfl, rfl, rfl, rfl⟩ hI (Nat.le_refl _) (Nat.le_refl _) dJ5_getValue_6d5f1_4
/-- the String that toString makes: its letters are the builder's -/
def tPo (ad : Nat → Nat → Nat) (o : Nat → Option Value) (t : Nat → Nat) (n cp : Nat) : gPo := fun o1 E1 kd1 ad1 rh1 μ1 =>
  E1 = tE ++ [(3, 0)] ∧ kd1 = tKd cp n ∧ rh1 = gRs sRh 2 0 0 (3, 0) ∧ o1 = o (ad1 2 0) ∧ ad1 0 0 = ad 0 0 ∧ ad1 1 0 = ad 1 0 ∧ ∃ ml arr a2, μ1 = tM n ml arr a2 ∧ sb_Lat t n a2
theorem kJ0_init {ad : Nat → Nat → Nat} (hI : gI tE ad) {n cp : Nat} {ml : Int32} {arr : Nat → Int32} (hm : cp ≤ 65536) (hnm : n < cp) (hf : sb_Fit arr) {t : Nat → Nat} (hL : sb_Lat t n arr) : gMetG l yJ0_init_db425 cJ0_init_db425 5 none ({ frames := 4, cells := 1, slots := n, locals := 300 } : Room) D tE (tKd cp n) tc ad sRh sa [.ref (ad 2 0), .ref (ad 0 0), .null] (sM n ml arr) (fun o E1 kd1 ad1 rh1 μ1 => tPo ad (fun _ => none) t n cp o E1 kd1 ad1 rh1 μ1 ∧ ad1 2 0 = ad 2 0) := by
  refine gMetGi_of hI ⟨by decide +kernel, Nat.le_of_ble_eq_true rfl⟩ (fun p e s m args below meth c sz hr hlk hnm0 => ?_)
  show J p l e ({ frames := 4, cells := 1, slots := n, locals := 300 } : Room) s m args below meth c cJ0_init_db425 5 RJ0 D tE (tKd cp n) tc ad sRh sa (gA tE ad sz) s.heap 0 0 (MQ below (gQG D tc tE ad sz (fun o E1 kd1 ad1 rh1 μ1 => tPo ad (fun _ => none) t n cp o E1 kd1 ad1 rh1 μ1 ∧ ad1 2 0 = ad 2 0)) args s (1) (n) (gA tE ad sz)) (sM n ml arr) 0 [(0, .ref (ad 2 0)), (1, .ref (ad 0 0)), (2, .null)] []
  refine J_aload_n (i := 0) (q := 0) (pc1 := 1) dJ0_init_db425_0 rfl rfl rfl ?_
  refine J_objInit (pc1 := 4) wlJ0_1o imObj cdObj ⟨Nat.le_of_ble_eq_true rfl, Nat.le_of_ble_eq_true rfl⟩ dJ0_init_db425_1 rfl ?_
  have hIs : gI sE ad := gI_sE (fun z => absurd (hI 0 1 (0, 0) (1, 0) rfl rfl z) (by decide))
  refine J_aload_n (i := 1) (q := 1) (pc1 := 5) dJ0_init_db425_4 rfl rfl rfl ?_
  refine J_runSub (μ2 := sM n ml arr) (o := some (.ref (ad 1 0))) (pc1 := 8) (st1 := (.ref (ad 1 0)) :: []) hI (fun f i h => sub_sE (N := 0) f i h) (J_hU (st := []) (As := []) (kJ5_getValue l D tc sa hIs (n := n) (cp := cp) (ml := ml) (arr := arr)) wuJ0_552 (fun hb => hb _ slJ4_J5_getValue_6d5f1_J5_getValue_6d5f1) rfl tE0 rfl rfl rfl ⟨Nat.le_of_ble_eq_true rfl, Nat.le_of_ble_eq_true rfl⟩ ⟨Nat.zero_le _, Nat.zero_le _⟩ (Nat.le_of_ble_eq_true rfl) dJ0_init_db425_5) (fun f i h => (sub_sE (N := 0) f i h).2.2.symm) (fun f i _ _ => rfl) rfl rfl rfl rfl ?_
  refine J_astore_n (i := 3) (lv1 := [(3, .ref (ad 1 0)), (0, .ref (ad 2 0)), (1, .ref (ad 0 0)), (2, .null)]) (pc1 := 9) dJ0_init_db425_8 rfl (by decide) rfl rfl ?_
  refine J_aload_n (i := 1) (q := 2) (pc1 := 10) dJ0_init_db425_9 rfl rfl rfl ?_
  refine J_runSub (μ2 := sM n ml arr) (o := some (.int (nI n))) (pc1 := 13) (st1 := (.int (nI n)) :: []) hI (fun f i h => sub_sE (N := 0) f i h) (J_hU (st := []) (As := []) (kJ4_length l D tc sa hIs (n := n) (cp := cp) (ml := ml) (arr := arr)) wuJ0_549 (fun hb => hb _ slJ4_J5_length_8abf5_J4_length_8abf5) rfl tE0 rfl rfl rfl ⟨Nat.le_of_ble_eq_true rfl, Nat.le_of_ble_eq_true rfl⟩ ⟨Nat.zero_le _, Nat.zero_le _⟩ (Nat.le_of_ble_eq_true rfl) dJ0_init_db425_10) (fun f i h => (sub_sE (N := 0) f i h).2.2.symm) (fun f i _ _ => rfl) rfl rfl rfl rfl ?_
  refine J_istore (i := 4) (lv1 := [(4, .int (nI n)), (3, .ref (ad 1 0)), (0, .ref (ad 2 0)), (1, .ref (ad 0 0)), (2, .null)]) (pc1 := 15) dJ0_init_db425_13 (by decide) rfl rfl ?_
  refine J_aload_n (i := 1) (q := 3) (pc1 := 16) dJ0_init_db425_15 rfl rfl rfl ?_
  refine J_runSub (μ2 := sM n ml arr) (o := some (.int 1)) (pc1 := 19) (st1 := (.int 1) :: []) hI (fun f i h => sub_sE (N := 0) f i h) (J_hU (st := []) (As := []) (kJ5_isLatin1 l D tc sa hIs (n := n) (cp := cp) (ml := ml) (arr := arr)) wuJ0_1047 (fun hb => hb _ slJ4_J5_isLatin1_aae02_J5_isLatin1_aae02) rfl tE0 rfl rfl rfl ⟨Nat.le_of_ble_eq_true rfl, Nat.le_of_ble_eq_true rfl⟩ ⟨Nat.zero_le _, Nat.zero_le _⟩ (Nat.le_of_ble_eq_true rfl) dJ0_init_db425_16) (fun f i h => (sub_sE (N := 0) f i h).2.2.symm) (fun f i _ _ => rfl) rfl rfl rfl rfl ?_
  refine J_if_eq (tgt := 41) (pc1 := 22) dJ0_init_db425_19 (by decide) (fun qq => absurd qq (by decide)) rfl (fun qq => ?_)
  refine J_aload_n (i := 0) (q := 2) (pc1 := 23) dJ0_init_db425_22 rfl rfl rfl ?_
  refine J_iconst (v := 0) (pc1 := 24) dJ0_init_db425_23 (by decide) rfl ?_
  refine J_putIF (T := TJ0) (pc1 := 27) tE2 rfl rfl inJ0 tyJ0 tyJ0_ok nmJ0 1 (by decide) rfl (fun _ _ _ _ => rfl) flJ0_15 rfl rfl hnm0 rfl rfl rfl dJ0_init_db425_24 rfl ?_
  rw [show w3 (sM n ml arr) 2 0 1 0 = sM n ml arr from w3_id rfl]
  refine J_aload_n (i := 0) (q := 2) (pc1 := 28) dJ0_init_db425_27 rfl rfl rfl ?_
  refine J_aload_n (i := 3) (q := 1) (pc1 := 29) dJ0_init_db425_28 rfl rfl rfl ?_
  refine J_iconst (v := 0) (pc1 := 30) dJ0_init_db425_29 (by decide) rfl ?_
  refine J_iload (i := 4) (q := 0) (pc1 := 32) dJ0_init_db425_30 rfl rfl ?_
  refine J_runN (pc1 := 35) (ce := 1) (sl := n) (J_hS (st := [.ref (ad 2 0)]) (As := [.ref (ad 1 0), .int 0, .int (nI n)]) (kJ7_copyOfRange l D tc sa hI hm hnm hf) wcJ7_copyOfRange_39247 wlJ0_54 rfl ⟨Nat.le_of_ble_eq_true rfl, Nat.le_of_ble_eq_true rfl⟩ ⟨Nat.le_refl _, by show 0 + n ≤ n; omega⟩ (Nat.le_of_ble_eq_true rfl) dJ0_init_db425_32) rfl rfl (Nat.zero_add _) (fun o1 E1 kd1 ad1 rh1 μ1 hp hI1 hfr => ?_)
  obtain ⟨rfl, rfl, rfl, rfl, rfl, h00, h10, h20⟩ := hp
  show J p l e _ s m args below meth c _ 5 RJ0 D _ _ tc ad1 sRh sa _ s.heap 1 n _ _ 35 [(4, .int (nI n)), (3, .ref (ad 1 0)), (0, .ref (ad 2 0)), (1, .ref (ad 0 0)), (2, .null)] [.ref (ad1 3 0), .ref (ad 2 0)]
  rw [show (Value.ref (ad 2 0)) = .ref (ad1 2 0) from congrArg Value.ref h20.symm]
  refine J_putRNF (T := TJ0) (f' := 3) (i' := 0) (pc1 := 38) (List.mem_append_left _ tE2) rfl rfl inJ0 tyJ0 tyJ0_ok nmJ0 0 (by decide) rfl flJ0_9 rfl rfl hnm0 rfl rfl rfl dJ0_init_db425_35 rfl ?_
  refine J_goto (tgt := 97) dJ0_init_db425_38 (by decide) ?_
  exact J_vretG hr hlk ⟨⟨rfl, rfl, rfl, rfl, h00, h10, ml, arr, _, rfl, sb_latKeep hL (fun j hj => sb_cpy0 hj)⟩, h20⟩ hI1 (Nat.le_refl _) (Nat.le_refl _) dJ0_init_db425_97
theorem kJ0_init2 {ad : Nat → Nat → Nat} (hI : gI tE ad) {n cp : Nat} {ml : Int32} {arr : Nat → Int32} (hm : cp ≤ 65536) (hnm : n < cp) (hf : sb_Fit arr) {t : Nat → Nat} (hL : sb_Lat t n arr) : gMetG l yJ0_init_81219 cJ0_init_81219 2 none ({ frames := 5, cells := 1, slots := n, locals := 400 } : Room) D tE (tKd cp n) tc ad sRh sa [.ref (ad 2 0), .ref (ad 0 0)] (sM n ml arr) (fun o E1 kd1 ad1 rh1 μ1 => tPo ad (fun _ => none) t n cp o E1 kd1 ad1 rh1 μ1 ∧ ad1 2 0 = ad 2 0) := by
  refine gMetGi_of hI ⟨by decide +kernel, Nat.le_of_ble_eq_true rfl⟩ (fun p e s m args below meth c sz hr hlk hnm0 => ?_)
  show J p l e ({ frames := 5, cells := 1, slots := n, locals := 400 } : Room) s m args below meth c cJ0_init_81219 2 RJ0 D tE (tKd cp n) tc ad sRh sa (gA tE ad sz) s.heap 0 0 (MQ below (gQG D tc tE ad sz (fun o E1 kd1 ad1 rh1 μ1 => tPo ad (fun _ => none) t n cp o E1 kd1 ad1 rh1 μ1 ∧ ad1 2 0 = ad 2 0)) args s (1) (n) (gA tE ad sz)) (sM n ml arr) 0 [(0, .ref (ad 2 0)), (1, .ref (ad 0 0))] []
  refine J_aload_n (i := 0) (q := 0) (pc1 := 1) dJ0_init_81219_0 rfl rfl rfl ?_
  refine J_aload_n (i := 1) (q := 1) (pc1 := 2) dJ0_init_81219_1 rfl rfl rfl ?_
  refine J_null (pc1 := 3) dJ0_init_81219_2 rfl ?_
  refine J_runN (pc1 := 6) (ce := 1) (sl := n) (J_hI (st := []) (As := [.ref (ad 0 0), .null]) (kJ0_init l D tc sa hI hm hnm hf hL) wiJ0_489 rfl ⟨Nat.le_of_ble_eq_true rfl, Nat.le_of_ble_eq_true rfl⟩ ⟨Nat.le_refl _, by show 0 + n ≤ n; omega⟩ (Nat.le_of_ble_eq_true rfl) dJ0_init_81219_3) rfl rfl (Nat.zero_add _) (fun o1 E1 kd1 ad1 rh1 μ1 hp hI1 hfr => ?_)
  obtain ⟨⟨rfl, rfl, rfl, rfl, h00, h10, ml1, arr1, a2, rfl, hL2⟩, h20⟩ := hp
  exact J_vretG hr hlk ⟨⟨rfl, rfl, rfl, rfl, h00, h10, ml1, arr1, a2, rfl, hL2⟩, h20⟩ hI1 (Nat.le_refl _) (Nat.le_refl _) dJ0_init_81219_6
theorem kJ4_toString {ad : Nat → Nat → Nat} (hI : gI sE ad) {n cp : Nat} {ml : Int32} {arr : Nat → Int32} (hm : cp ≤ 65536) (hnm : n < cp) (hf : sb_Fit arr) {t : Nat → Nat} (hL : sb_Lat t n arr) : gMetG l yJ4_toString_0e30d cJ4_toString_0e30d 1 (some (.object "java/lang/String")) ({ frames := 6, cells := 2, slots := 4 + n, locals := 500 } : Room) D sE (tKd cp n) tc ad sRh sa [.ref (ad 0 0)] (sM n ml arr) (tPo ad (fun q => some (.ref q)) t n cp) := by
  refine gMetG_of hI ⟨by decide +kernel, Nat.le_of_ble_eq_true rfl⟩ (fun p e s m args below meth c sz hr hlk => ?_)
  show J p l e ({ frames := 6, cells := 2, slots := 4 + n, locals := 500 } : Room) s m args below meth c cJ4_toString_0e30d 1 RJ4 D sE (tKd cp n) tc ad sRh sa (gA sE ad sz) s.heap 0 0 (MQ below (gQG D tc sE ad sz (tPo ad (fun q => some (.ref q)) t n cp)) args s (2) (4 + n) (gA sE ad sz)) (sM n ml arr) 0 [(0, .ref (ad 0 0))] []
  refine J_newO (N := 4) (ci := 0) (f0 := 2) (i0 := 0) (Cn := RJ0) (T := TJ0) (pc1 := 3) (by decide) rfl rfl inJ0 tyJ0 tyJ0_ok (fun k hk => by match k, hk with | 0, _ => rfl | 1, _ => rfl | 2, _ => rfl | 3, _ => rfl) (fun f i row k _ => by unfold sRh; split <;> simp) (fun row k => by unfold sRh; simp) (by funext k; rfl) clJ4_18 inst0 iniJ0 (Nat.le_of_ble_eq_true rfl) (by show 0 + 4 ≤ 4 + n; omega) dJ4_toString_0e30d_0 rfl (fun b hb => ?_)
  rw [show (Value.ref b) = .ref (gAd ad 2 0 b 2 0) from congrArg Value.ref gAd_at.symm, show (Value.ref (ad 0 0)) = .ref (gAd ad 2 0 b 0 0) from congrArg Value.ref (gAd_ne (by decide)).symm]
  have hI2 : gI tE (gAd ad 2 0 b) := gI_snoc hI (by decide) hb
  refine J_dup (pc1 := 4) dJ4_toString_0e30d_3 rfl rfl ?_
  refine J_aload_n (i := 0) (q := 0) (pc1 := 5) dJ4_toString_0e30d_4 rfl rfl rfl ?_
  refine J_runN (pc1 := 8) (ce := 2) (sl := 4 + n) (J_hI (st := [.ref (gAd ad 2 0 b 2 0)]) (As := [.ref (gAd ad 2 0 b 0 0)]) (kJ0_init2 l D tc sa hI2 hm hnm hf hL) wiJ4_137 rfl ⟨Nat.le_of_ble_eq_true rfl, Nat.le_of_ble_eq_true rfl⟩ ⟨Nat.le_of_ble_eq_true rfl, by show 0 + 4 + n ≤ 4 + n; omega⟩ (Nat.le_of_ble_eq_true rfl) dJ4_toString_0e30d_5) rfl rfl (by show 0 + 4 + n = 4 + n; omega) (fun o1 E1 kd1 ad1 rh1 μ1 hp hI1 hfr => ?_)
  obtain ⟨⟨rfl, rfl, rfl, rfl, h00, h10, ml1, arr1, a2, rfl, hL2⟩, h20⟩ := hp
  show J p l e _ s m args below meth c _ 1 RJ4 D _ _ tc ad1 _ sa _ s.heap 2 (4 + n) _ _ 8 _ [.ref (gAd ad 2 0 b 2 0)]
  rw [show (Value.ref (gAd ad 2 0 b 2 0)) = .ref (ad1 2 0) from congrArg Value.ref h20.symm]
  exact J_aretG hr hlk ⟨rfl, rfl, rfl, rfl, h00.trans (gAd_ne (by decide)), h10.trans (gAd_ne (by decide)), ml1, arr1, a2, rfl, hL2⟩ hI1 (Nat.le_refl _) (Nat.le_refl _) dJ4_toString_0e30d_8
def qE : List (Nat × Nat) := [(2, 0), (3, 0)]
theorem qE2 : (2, 0) ∈ qE := List.mem_cons_self
theorem qE3 : (3, 0) ∈ qE := List.mem_cons_of_mem _ List.mem_cons_self
theorem kQ_coder {ad : Nat → Nat → Nat} (hI : gI qE ad) {n cp : Nat} {ml : Int32} {arr a2 : Nat → Int32} (hn : n ≤ 65536) : gMetG l yJ0_coder_7d493 cJ0_coder_7d493 1 (some .byte) ({ frames := 0, cells := 0, slots := 0, locals := 20 } : Room) D qE (tKd cp n) tc ad (gRs sRh 2 0 0 (3, 0)) sa [.ref (ad 2 0)] (tM n ml arr a2) (gSame qE (tKd cp n) ad (gRs sRh 2 0 0 (3, 0)) (some (.int 0)) (tM n ml arr a2)) := by
  refine gMetG_of hI ⟨by decide +kernel, Nat.le_of_ble_eq_true rfl⟩ (fun p e s m args below meth c sz hr hlk => ?_)
  show J p l e ({ frames := 0, cells := 0, slots := 0, locals := 20 } : Room) s m args below meth c cJ0_coder_7d493 1 RJ0 D qE (tKd cp n) tc ad (gRs sRh 2 0 0 (3, 0)) sa (gA qE ad sz) s.heap 0 0 (MQ below (gQG D tc qE ad sz (gSame qE (tKd cp n) ad (gRs sRh 2 0 0 (3, 0)) (some (.int 0)) (tM n ml arr a2))) args s 0 0 (gA qE ad sz)) (tM n ml arr a2) 0 [(0, .ref (ad 2 0))] []
  refine J_compact (own := RJ0) (pc1 := 3) flJ0_38 dJ0_coder_7d493_0 rfl ?_
  refine J_if_eq (tgt := 13) (pc1 := 6) dJ0_coder_7d493_3 (by decide) (fun qq => absurd qq (by decide)) rfl (fun qq => ?_)
  refine J_aload_n (i := 0) (q := 0) (pc1 := 7) dJ0_coder_7d493_6 rfl rfl rfl ?_
  refine J_getV (T := TJ0) (pc1 := 10) 1 (v := 0) (rfl) qE2 rfl rfl inJ0 (by decide) rfl flJ0_15 rfl dJ0_coder_7d493_7 rfl ?_
  refine J_goto (tgt := 14) dJ0_coder_7d493_10 (by decide) ?_
  exact J_bretG rfl hr hlk ⟨rfl, rfl, rfl, rfl, rfl, rfl⟩ hI (Nat.le_refl _) (Nat.le_refl _) dJ0_coder_7d493_14
theorem kQ_isLatin1 {ad : Nat → Nat → Nat} (hI : gI qE ad) {n cp : Nat} {ml : Int32} {arr a2 : Nat → Int32} (hn : n ≤ 65536) : gMetG l yJ0_isLatin1_aae02 cJ0_isLatin1_aae02 1 (some .boolean) ({ frames := 0, cells := 0, slots := 0, locals := 20 } : Room) D qE (tKd cp n) tc ad (gRs sRh 2 0 0 (3, 0)) sa [.ref (ad 2 0)] (tM n ml arr a2) (gSame qE (tKd cp n) ad (gRs sRh 2 0 0 (3, 0)) (some (.int 1)) (tM n ml arr a2)) := by
  refine gMetG_of hI ⟨by decide +kernel, Nat.le_of_ble_eq_true rfl⟩ (fun p e s m args below meth c sz hr hlk => ?_)
  show J p l e ({ frames := 0, cells := 0, slots := 0, locals := 20 } : Room) s m args below meth c cJ0_isLatin1_aae02 1 RJ0 D qE (tKd cp n) tc ad (gRs sRh 2 0 0 (3, 0)) sa (gA qE ad sz) s.heap 0 0 (MQ below (gQG D tc qE ad sz (gSame qE (tKd cp n) ad (gRs sRh 2 0 0 (3, 0)) (some (.int 1)) (tM n ml arr a2))) args s 0 0 (gA qE ad sz)) (tM n ml arr a2) 0 [(0, .ref (ad 2 0))] []
  refine J_compact (own := RJ0) (pc1 := 3) flJ0_38 dJ0_isLatin1_aae02_0 rfl ?_
  refine J_if_eq (tgt := 17) (pc1 := 6) dJ0_isLatin1_aae02_3 (by decide) (fun qq => absurd qq (by decide)) rfl (fun qq => ?_)
  refine J_aload_n (i := 0) (q := 0) (pc1 := 7) dJ0_isLatin1_aae02_6 rfl rfl rfl ?_
  refine J_getV (T := TJ0) (pc1 := 10) 1 (v := 0) (rfl) qE2 rfl rfl inJ0 (by decide) rfl flJ0_15 rfl dJ0_isLatin1_aae02_7 rfl ?_
  refine J_if_ne (tgt := 17) (pc1 := 13) dJ0_isLatin1_aae02_10 (by decide) (fun qq => absurd qq (fun z => z rfl)) rfl (fun qq => ?_)
  refine J_iconst (v := 1) (pc1 := 14) dJ0_isLatin1_aae02_13 (by decide) rfl ?_
  refine J_goto (tgt := 18) dJ0_isLatin1_aae02_14 (by decide) ?_
  exact J_zretG (by decide) hr hlk ⟨rfl, rfl, rfl, rfl, rfl, rfl⟩ hI (Nat.le_refl _) (Nat.le_refl _) dJ0_isLatin1_aae02_18
theorem kQ_length {ad : Nat → Nat → Nat} (hI : gI qE ad) {n cp : Nat} {ml : Int32} {arr a2 : Nat → Int32} (hn : n ≤ 65536) : gMetG l yJ0_length_8abf5 cJ0_length_8abf5 1 (some .int) ({ frames := 1, cells := 0, slots := 0, locals := 60 } : Room) D qE (tKd cp n) tc ad (gRs sRh 2 0 0 (3, 0)) sa [.ref (ad 2 0)] (tM n ml arr a2) (gSame qE (tKd cp n) ad (gRs sRh 2 0 0 (3, 0)) (some (.int (nI n))) (tM n ml arr a2)) := by
  refine gMetG_of hI ⟨by decide +kernel, Nat.le_of_ble_eq_true rfl⟩ (fun p e s m args below meth c sz hr hlk => ?_)
  show J p l e ({ frames := 1, cells := 0, slots := 0, locals := 60 } : Room) s m args below meth c cJ0_length_8abf5 1 RJ0 D qE (tKd cp n) tc ad (gRs sRh 2 0 0 (3, 0)) sa (gA qE ad sz) s.heap 0 0 (MQ below (gQG D tc qE ad sz (gSame qE (tKd cp n) ad (gRs sRh 2 0 0 (3, 0)) (some (.int (nI n))) (tM n ml arr a2))) args s 0 0 (gA qE ad sz)) (tM n ml arr a2) 0 [(0, .ref (ad 2 0))] []
  refine J_aload_n (i := 0) (q := 0) (pc1 := 1) dJ0_length_8abf5_0 rfl rfl rfl ?_
  refine J_getR (T := TJ0) (f' := 3) (i' := 0) (pc1 := 4) qE2 rfl rfl inJ0 0 (by decide) rfl (rfl) flJ0_9 rfl dJ0_length_8abf5_1 rfl ?_
  refine J_alen (ty := .byte) (v := nI n) (pc1 := 5) qE3 rfl rfl (rfl) dJ0_length_8abf5_4 rfl ?_
  refine J_aload_n (i := 0) (q := 0) (pc1 := 6) dJ0_length_8abf5_5 rfl rfl rfl ?_
  refine J_runM (o := some (.int 0)) (pc1 := 9) (st1 := (.int 0) :: [.int (nI n)]) (J_hV (st := [.int (nI n)]) (As := []) (kQ_coder l D tc sa hI (n := n) (cp := cp) (ml := ml) (arr := arr) (a2 := a2) hn) wcJ0_coder_7d493 rfl wlJ0_335 rfl qE2 rfl rfl rfl ⟨Nat.le_of_ble_eq_true rfl, Nat.le_of_ble_eq_true rfl⟩ ⟨Nat.le_refl _, Nat.le_refl _⟩ (Nat.le_of_ble_eq_true rfl) dJ0_length_8abf5_6) rfl rfl rfl rfl ?_
  refine J_ishr (pc1 := 10) dJ0_length_8abf5_9 rfl ?_
  refine J_eqI (y := nI n) (sb_shr0 _) ?_
  exact J_iretG hr hlk ⟨rfl, rfl, rfl, rfl, rfl, rfl⟩ hI (Nat.le_refl _) (Nat.le_refl _) dJ0_length_8abf5_10
theorem kQ_charAt1 {ad : Nat → Nat → Nat} (hI : gI qE ad) {n cp : Nat} {ml : Int32} {arr a2 : Nat → Int32} (hn : n ≤ 65536) {i : Nat} {t : Nat → Nat} (hi : i < n) (hL : sb_Lat t n a2) : gMetG l yJ1_charAt_3b067 cJ1_charAt_3b067 2 (some .char) ({ frames := 2, cells := 0, slots := 0, locals := 100 } : Room) D qE (tKd cp n) tc ad (gRs sRh 2 0 0 (3, 0)) sa [.ref (ad 3 0), .int (nI i)] (tM n ml arr a2) (gSame qE (tKd cp n) ad (gRs sRh 2 0 0 (3, 0)) (some (.int (nI (t i)))) (tM n ml arr a2)) := by
  refine gMetG_of hI ⟨by decide +kernel, Nat.le_of_ble_eq_true rfl⟩ (fun p e s m args below meth c sz hr hlk => ?_)
  show J p l e ({ frames := 2, cells := 0, slots := 0, locals := 100 } : Room) s m args below meth c cJ1_charAt_3b067 2 RJ1 D qE (tKd cp n) tc ad (gRs sRh 2 0 0 (3, 0)) sa (gA qE ad sz) s.heap 0 0 (MQ below (gQG D tc qE ad sz (gSame qE (tKd cp n) ad (gRs sRh 2 0 0 (3, 0)) (some (.int (nI (t i)))) (tM n ml arr a2))) args s 0 0 (gA qE ad sz)) (tM n ml arr a2) 0 [(0, .ref (ad 3 0)), (1, .int (nI i))] []
  refine J_iload_n (i := 1) (q := 1) (pc1 := 1) dJ1_charAt_3b067_0 rfl rfl rfl ?_
  refine J_aload_n (i := 0) (q := 0) (pc1 := 2) dJ1_charAt_3b067_1 rfl rfl rfl ?_
  refine J_alen (ty := .byte) (v := nI n) (pc1 := 3) qE3 rfl rfl (rfl) dJ1_charAt_3b067_2 rfl ?_
  refine J_callS (As := [.int (nI i), .int (nI n)]) (pc1 := 6) (st := []) (st1 := []) (kJ0_checkIndex l D qE (tKd cp n) tc sa ad _ hI _ (nI_pos (by omega)) (nI_lt hi (by omega))) wcJ0_checkIndex_df160 wlJ1_9 rfl ⟨rfl, rfl, Nat.le_of_ble_eq_true rfl, Nat.le_of_ble_eq_true rfl⟩ ⟨Nat.zero_le _, Nat.zero_le _⟩ (Nat.le_of_ble_eq_true rfl) dJ1_charAt_3b067_3 rfl rfl ?_
  refine J_aload_n (i := 0) (q := 0) (pc1 := 7) dJ1_charAt_3b067_6 rfl rfl rfl ?_
  refine J_iload_n (i := 1) (q := 1) (pc1 := 8) dJ1_charAt_3b067_7 rfl rfl rfl ?_
  refine J_bald (ix := i) (v := a2 i) (pc1 := 9) (nI_clamp (by omega)) rfl qE3 rfl (vp_in_nI (by omega) (by omega)) dJ1_charAt_3b067_8 rfl ?_
  refine J_sipush (v := 255) (pc1 := 12) dJ1_charAt_3b067_9 (by decide) rfl ?_
  refine J_iand (pc1 := 13) dJ1_charAt_3b067_12 rfl ?_
  refine J_eqI (y := nI (t i)) (by rw [(hL i hi).2]; exact (sb_byte _ (hL i hi).1).1) ?_
  refine J_i2c (pc1 := 14) dJ1_charAt_3b067_13 rfl ?_
  refine J_eqI (y := nI (t i)) ((sb_byte _ (hL i hi).1).2.1) ?_
  exact J_cretG (Value.int.inj (pk_charN (by have := (hL i hi).1; omega)).1) hr hlk ⟨rfl, rfl, rfl, rfl, rfl, rfl⟩ hI (Nat.le_refl _) (Nat.le_refl _) dJ1_charAt_3b067_14
theorem kQ_charAt {ad : Nat → Nat → Nat} (hI : gI qE ad) {n cp : Nat} {ml : Int32} {arr a2 : Nat → Int32} (hn : n ≤ 65536) {i : Nat} {t : Nat → Nat} (hi : i < n) (hL : sb_Lat t n a2) : gMetG l yJ0_charAt_5068e cJ0_charAt_5068e 2 (some .char) ({ frames := 3, cells := 0, slots := 0, locals := 200 } : Room) D qE (tKd cp n) tc ad (gRs sRh 2 0 0 (3, 0)) sa [.ref (ad 2 0), .int (nI i)] (tM n ml arr a2) (gSame qE (tKd cp n) ad (gRs sRh 2 0 0 (3, 0)) (some (.int (nI (t i)))) (tM n ml arr a2)) := by
  refine gMetG_of hI ⟨by decide +kernel, Nat.le_of_ble_eq_true rfl⟩ (fun p e s m args below meth c sz hr hlk => ?_)
  show J p l e ({ frames := 3, cells := 0, slots := 0, locals := 200 } : Room) s m args below meth c cJ0_charAt_5068e 2 RJ0 D qE (tKd cp n) tc ad (gRs sRh 2 0 0 (3, 0)) sa (gA qE ad sz) s.heap 0 0 (MQ below (gQG D tc qE ad sz (gSame qE (tKd cp n) ad (gRs sRh 2 0 0 (3, 0)) (some (.int (nI (t i)))) (tM n ml arr a2))) args s 0 0 (gA qE ad sz)) (tM n ml arr a2) 0 [(0, .ref (ad 2 0)), (1, .int (nI i))] []
  refine J_aload_n (i := 0) (q := 0) (pc1 := 1) dJ0_charAt_5068e_0 rfl rfl rfl ?_
  refine J_runM (o := some (.int 1)) (pc1 := 4) (st1 := (.int 1) :: []) (J_hV (st := []) (As := []) (kQ_isLatin1 l D tc sa hI (n := n) (cp := cp) (ml := ml) (arr := arr) (a2 := a2) hn) wcJ0_isLatin1_aae02 rfl wlJ0_492 rfl qE2 rfl rfl rfl ⟨Nat.le_of_ble_eq_true rfl, Nat.le_of_ble_eq_true rfl⟩ ⟨Nat.le_refl _, Nat.le_refl _⟩ (Nat.le_of_ble_eq_true rfl) dJ0_charAt_5068e_1) rfl rfl rfl rfl ?_
  refine J_if_eq (tgt := 16) (pc1 := 7) dJ0_charAt_5068e_4 (by decide) (fun qq => absurd qq (by decide)) rfl (fun qq => ?_)
  refine J_aload_n (i := 0) (q := 0) (pc1 := 8) dJ0_charAt_5068e_7 rfl rfl rfl ?_
  refine J_getR (T := TJ0) (f' := 3) (i' := 0) (pc1 := 11) qE2 rfl rfl inJ0 0 (by decide) rfl (rfl) flJ0_9 rfl dJ0_charAt_5068e_8 rfl ?_
  refine J_iload_n (i := 1) (q := 1) (pc1 := 12) dJ0_charAt_5068e_11 rfl rfl rfl ?_
  refine J_runM (o := some (.int (nI (t i)))) (pc1 := 15) (st1 := [.int (nI (t i))]) (J_hS (st := []) (As := [.ref (ad 3 0), .int (nI i)]) (kQ_charAt1 l D tc sa hI (cp := cp) (ml := ml) (arr := arr) hn hi hL) wcJ1_charAt_3b067 wlJ0_495 rfl ⟨Nat.le_of_ble_eq_true rfl, Nat.le_of_ble_eq_true rfl⟩ ⟨Nat.le_refl _, Nat.le_refl _⟩ (Nat.le_of_ble_eq_true rfl) dJ0_charAt_5068e_12) rfl rfl rfl rfl ?_
  exact J_cretG (Value.int.inj (pk_charN (by have := (hL i hi).1; omega)).1) hr hlk ⟨rfl, rfl, rfl, rfl, rfl, rfl⟩ hI (Nat.le_refl _) (Nat.le_refl _) dJ0_charAt_5068e_15
end SB8
