/-! java.lang.StringBuilder: its world (the object, its bytes), ensureCapacityInternal -/
def sE : List (Nat × Nat) := [(0, 0), (1, 0)]
def sKd (n N : Nat) : Nat → gKd := fun f => if f = 0 then .inl (1, 4, [0]) else if f = 1 then .inr (.inl (4, n)) else .inr (.inl (4, N))
def sRh : gRh := fun _ f _ k => if f = 0 ∧ k = 0 then some (1, 0) else none
def sM (n : Nat) (ml : Int32) (arr : Nat → Int32) : gM := fun f i k => if f = 0 ∧ i = 0 then (if k = 3 then nI n else if k = 2 then ml else 0) else if f = 1 ∧ i = 0 then arr k else 0
theorem sE0 : (0, 0) ∈ sE := List.mem_cons_self
theorem sE1 : (1, 0) ∈ sE := List.mem_cons_of_mem _ List.mem_cons_self
theorem sE_in {f i : Nat} (h : (f, i) ∈ sE) : (f = 0 ∧ i = 0) ∨ (f = 1 ∧ i = 0) := by
  simpa [sE] using h
theorem sM_cnt {n n1 : Nat} {ml : Int32} {arr : Nat → Int32} : w3 (sM n ml arr) 0 0 3 (nI n1) = sM n1 ml arr := by
  funext f i k
  unfold w3 sM
  by_cases h : f = 0 ∧ i = 0 ∧ k = 3
  · rw [if_pos h, if_pos ⟨h.1, h.2.1⟩, if_pos h.2.2]
  · rw [if_neg h]
    by_cases h1 : f = 0 ∧ i = 0
    · have hk : ¬ k = 3 := fun e => h ⟨h1.1, h1.2, e⟩
      rw [if_pos h1, if_pos h1, if_neg hk, if_neg hk]
    · rw [if_neg h1, if_neg h1]
theorem sM_ml {n : Nat} {ml ml1 : Int32} {arr : Nat → Int32} : w3 (sM n ml arr) 0 0 2 ml1 = sM n ml1 arr := by
  funext f i k
  unfold w3 sM
  by_cases h : f = 0 ∧ i = 0 ∧ k = 2
  · rw [if_pos h, if_pos ⟨h.1, h.2.1⟩, if_neg (by omega), if_pos h.2.2]
  · rw [if_neg h]
    by_cases h1 : f = 0 ∧ i = 0
    · have hk : ¬ k = 2 := fun e => h ⟨h1.1, h1.2, e⟩
      rw [if_pos h1, if_pos h1, if_neg hk, if_neg hk]
    · rw [if_neg h1, if_neg h1]
theorem sM_arr {n j : Nat} {ml v : Int32} {arr : Nat → Int32} : w3 (sM n ml arr) 1 0 j v = sM n ml (upd arr j v) := by
  funext f i k
  unfold w3 sM upd
  by_cases h : f = 1 ∧ i = 0
  · rw [if_neg (show ¬ (f = 0 ∧ i = 0) by omega), if_neg (show ¬ (f = 0 ∧ i = 0) by omega), if_pos h, if_pos h]
    by_cases hk : k = j
    · rw [if_pos ⟨h.1, h.2, hk⟩, if_pos hk]
    · rw [if_neg (fun e => hk e.2.2), if_neg hk]
  · rw [if_neg (fun e => h ⟨e.1, e.2.1⟩), if_neg h, if_neg h]
/-- what an ensureCapacity up to q at the capacity m makes -/
def sMc (q m : Nat) : Nat := if q ≤ m then 0 else 1
def sMs (q m : Nat) : Nat := if q ≤ m then 0 else sb_cap q m
/-- the builder holds the n letters t, at the capacity cap -/
def sPo (ad : Nat → Nat → Nat) (o : Option Value) (t : Nat → Nat) (n cap : Nat) : gPo := fun o1 E1 kd1 ad1 rh1 μ1 =>
  o1 = o ∧ E1 = sE ∧ ad1 0 0 = ad 0 0 ∧ (∃ N, kd1 = sKd cap N) ∧ rh1 = sRh ∧ ∃ ml arr, μ1 = sM n ml arr ∧ sb_Lat t n arr ∧ sb_Fit arr
theorem gI_sE {ad : Nat → Nat → Nat} (h : ad 0 0 ≠ ad 1 0) : gI sE ad := by
  intro i j p q hi hj he
  match i, j, hi, hj with
  | 0, 0, _, _ => rfl
  | 1, 1, _, _ => rfl
  | 0, 1, hi, hj => cases hi; cases hj; exact absurd he h
  | 1, 0, hi, hj => cases hi; cases hj; exact absurd he.symm h
  | n + 2, _, hi, _ => simp [sE] at hi
  | 0, n + 2, _, hj => simp [sE] at hj
  | 1, n + 2, _, hj => simp [sE] at hj
theorem sE_ne {ad : Nat → Nat → Nat} (h : gI sE ad) : ad 0 0 ≠ ad 1 0 := fun e => absurd (h 0 1 (0, 0) (1, 0) rfl rfl e) (by decide)
theorem sKd_e {n N N1 : Nat} {tc : Nat → ClassId} {ad : Nat → Nat → Nat} {rh : gRh} {row : Nat → Int32} {f i : Nat} (h : (f, i) ∈ sE) : g_e (sKd n N1) tc ad rh row f i = g_e (sKd n N) tc ad rh row f i := by
  rcases sE_in h with ⟨rfl, rfl⟩ | ⟨rfl, rfl⟩ <;> rfl
theorem inJ4 : ∀ w ∈ wsJ40, w ∈ BIG := fun w h => big_mk ((by decide +kernel : ∀ w ∈ wsJ40, w ∈ lw_tbl) w h) ((by decide +kernel : ∀ w ∈ wsJ40, goodWord w = true) w h)
theorem inJ0 : ∀ w ∈ wsJ00, w ∈ BIG := fun w h => big_mk ((by decide +kernel : ∀ w ∈ wsJ00, w ∈ lw_tbl) w h) ((by decide +kernel : ∀ w ∈ wsJ00, goodWord w = true) w h)
section SB3
variable {p : Program} {l : Launch} {e : Env} {R : Room} {s : State} {m : MethodId} {args : Array Value} {below : List Frame} {meth : Method} {c : Code} {cc : ByteArray} {nL : Nat} {own : String} {D : va_G} {E : List (Nat × Nat)} {kd : Nat → gKd} {tc : Nat → ClassId} {ad : Nat → Nat → Nat} {rh : gRh} {sa : Nat → Nat} {A : Nat → Prop} {H0 : Heap} {cells slots : Nat} {Q : State → Prop} {μ : gM} {pc : Nat} {lv : List (Nat × Value)} {st : List Value}
theorem J_runN {mc ms : Nat} {P : gPo} {av st0 : List Value} {pc1 ce sl : Nat} (hrun : gRunH p l e R s m args below meth c cc nL own D E kd tc ad rh sa A H0 cells slots μ pc lv E kd ad rh μ mc ms P st av st0) (hp : pc + 3 = pc1) (h1 : cells + mc = ce) (h2 : slots + ms = sl)
    (k : ∀ (o : Option Value) (E1 : List (Nat × Nat)) (kd1 : Nat → gKd) (ad1 : Nat → Nat → Nat) (rh1 : gRh) (μ1 : gM), P o E1 kd1 ad1 rh1 μ1 → gI E1 ad1 → (∀ f i, (f, i) ∈ E1 → (∃ f' i', (f', i') ∈ E ∧ ad1 f i = ad f' i') ∨ ∀ f' i', (f', i') ∈ E → ad f' i' ≠ ad1 f i) → J p l e R s m args below meth c cc nL own D E1 kd1 tc ad1 rh1 sa A H0 ce sl Q μ1 pc1 lv (o.toList ++ st)) : J p l e R s m args below meth c cc nL own D E kd tc ad rh sa A H0 cells slots Q μ pc lv st0 := by
  subst hp; subst h1; subst h2
  exact J_runE hrun k
end SB3
theorem sbstMax : Cond.static Lib.Math.max.name ∈ BIG := bigT3 (i := 162) rfl rfl
theorem sbiniMath : Cond.initialized "java/lang/Math" ∈ BIG := bigT1 (i := 19) rfl rfl
theorem sbstMin : Cond.static Lib.Math.min.name ∈ BIG := bigT3 (i := 159) rfl rfl
theorem sbcdMax : Cond.code Lib.Math.max.name Lib.Math.max.code 2 (some .int) ∈ BIG := bigT3 (i := 163) rfl rfl
theorem sbcdMin : Cond.code Lib.Math.min.name Lib.Math.min.code 2 (some .int) ∈ BIG := bigT3 (i := 160) rfl rfl
theorem sbwlMax : Cond.methodLink RJ8 194 Lib.Math.max.name ∈ BIG := bigT6 (i := 35) rfl rfl
theorem sbcn200 : Cond.constant RJ8 200 (2147483639) ∈ BIG := bigT6 (i := 36) rfl rfl
theorem flJ5_18 : Cond.fieldLink RJ5 18 "java/lang/String" "COMPACT_STRINGS" "Z" ∈ BIG := bigT2 (i := 130) rfl rfl
theorem flJ5_22 : Cond.fieldLink RJ5 22 "java/lang/AbstractStringBuilder" "coder" "B" ∈ BIG := bigT2 (i := 140) rfl rfl
theorem flJ5_15 : Cond.fieldLink RJ5 15 "java/lang/AbstractStringBuilder" "value" "[B" ∈ BIG := bigT2 (i := 139) rfl rfl
theorem wlJ5_114 : Cond.methodLink RJ5 114 yJ8_newLength_cabcc ∈ BIG := bigT6 (i := 32) rfl rfl
theorem stJ8_newLength_cabcc : Cond.static yJ8_newLength_cabcc ∈ BIG := bigT6 (i := 33) rfl rfl
theorem iniJ8 : Cond.initialized RJ8 ∈ BIG := bigT1 (i := 30) rfl rfl
theorem cdJ8_newLength_cabcc : Cond.code yJ8_newLength_cabcc cJ8_newLength_cabcc 4 (some .int) ∈ BIG := bigT6 (i := 34) rfl rfl
theorem wcJ8_newLength_cabcc : wCs yJ8_newLength_cabcc cJ8_newLength_cabcc 4 (some .int) 3 := ⟨⟨stJ8_newLength_cabcc, iniJ8, cdJ8_newLength_cabcc⟩, by decide +kernel⟩
theorem sbcn39 : Cond.constant RJ5 39 (2147483647) ∈ BIG := bigT6 (i := 40) rfl rfl
theorem sbarB : Cond.arrayClass .byte ∈ BIG := bigT2 (i := 153) rfl rfl
theorem sbwlMin : Cond.methodLink RJ7 304 Lib.Math.min.name ∈ BIG := bigT6 (i := 51) rfl rfl
theorem wlJ7_150 : Cond.methodLink RJ7 150 arraycopyName ∈ BIG := bigT6 (i := 52) rfl rfl
theorem wlJ5_104 : Cond.methodLink RJ5 104 yJ5_newCapacity_0f7a4 ∈ BIG := bigT6 (i := 28) rfl rfl
theorem smJ5_newCapacity_0f7a4 : Cond.sameMethod yJ5_newCapacity_0f7a4.cls yJ5_newCapacity_0f7a4.cls yJ5_newCapacity_0f7a4.name yJ5_newCapacity_0f7a4.desc ∈ BIG := bigT8 (i := 225) rfl rfl
theorem imJ5_newCapacity_0f7a4 : Cond.instanceMethod yJ5_newCapacity_0f7a4 ∈ BIG := bigT6 (i := 30) rfl rfl
theorem cdJ5_newCapacity_0f7a4 : Cond.code yJ5_newCapacity_0f7a4 cJ5_newCapacity_0f7a4 6 (some .int) ∈ BIG := bigT6 (i := 31) rfl rfl
theorem iniJ5 : Cond.initialized RJ5 ∈ BIG := bigT1 (i := 8) rfl rfl
theorem wuJ5_104 : wCu RJ4 RJ5 104 yJ5_newCapacity_0f7a4 yJ5_newCapacity_0f7a4 cJ5_newCapacity_0f7a4 6 (some .int) 1 := ⟨⟨wlJ5_104, smJ5_newCapacity_0f7a4, imJ5_newCapacity_0f7a4, ⟨_, _, _, cdJ5_newCapacity_0f7a4⟩, imJ5_newCapacity_0f7a4, iniJ5, cdJ5_newCapacity_0f7a4⟩, by decide +kernel⟩
theorem slb1 : Cond.selects RJ4 yJ5_newCapacity_0f7a4 yJ5_newCapacity_0f7a4 ∈ BIG := big_sb (i := 1) rfl rfl
theorem slJ4_J5_isLatin1_aae02_J5_isLatin1_aae02 : Cond.selects RJ4 yJ5_isLatin1_aae02 yJ5_isLatin1_aae02 ∈ BIG := bigT6 (i := 56) rfl rfl
theorem wlJ5_108 : Cond.methodLink RJ5 108 yJ7_copyOf_9075b ∈ BIG := bigT6 (i := 41) rfl rfl
theorem stJ7_copyOf_9075b : Cond.static yJ7_copyOf_9075b ∈ BIG := bigT6 (i := 42) rfl rfl
theorem iniJ7 : Cond.initialized RJ7 ∈ BIG := bigT1 (i := 31) rfl rfl
theorem cdJ7_copyOf_9075b : Cond.code yJ7_copyOf_9075b cJ7_copyOf_9075b 3 (some (.array .byte)) ∈ BIG := bigT6 (i := 43) rfl rfl
theorem wcJ7_copyOf_9075b : wCs yJ7_copyOf_9075b cJ7_copyOf_9075b 3 (some (.array .byte)) 2 := ⟨⟨stJ7_copyOf_9075b, iniJ7, cdJ7_copyOf_9075b⟩, by decide +kernel⟩
section SB4
variable (l : Launch) (D : va_G) (tc : Nat → ClassId) (sa : Nat → Nat)
theorem nmax_nI {b d : Nat} (hb : b < 2 ^ 31) (hd : d < 2 ^ 31) : (if nI b < nI d then nI d else nI b) = nI (if b < d then d else b) := by
  by_cases h : b < d
  · rw [if_pos h, if_pos (nI_lt h hd)]
  · rw [if_neg h, if_neg (nI_nlt (by omega) hb)]
theorem nI_nle2 {n : Nat} (h0 : 0 < n) (h : n < 2 ^ 31) : ¬ nI n ≤ 0 := nI_nle h0 h
theorem kJ8_newLength {E : List (Nat × Nat)} {kd : Nat → gKd} {ad : Nat → Nat → Nat} {rh : gRh} (hI : gI E ad) (μ : gM) {a b d : Nat} (hb : b < 2 ^ 31) (hd : d < 2 ^ 31) (h0 : 0 < a + (if b < d then d else b)) (h1 : a + (if b < d then d else b) ≤ 2147483639) : gMet l yJ8_newLength_cabcc cJ8_newLength_cabcc 4 (some .int) ({ frames := 1, cells := 0, slots := 0, locals := 40 } : Room) D E kd tc ad rh sa [.int (nI a), .int (nI b), .int (nI d)] μ (some (.int (nI (a + if b < d then d else b)))) μ := by
  refine gMet_of hI ⟨by decide +kernel, Nat.le_of_ble_eq_true rfl⟩ (fun p e s m args below meth c sz hr hlk => ?_)
  show J p l e ({ frames := 1, cells := 0, slots := 0, locals := 40 } : Room) s m args below meth c cJ8_newLength_cabcc 4 RJ8 D E kd tc ad rh sa (gA E ad sz) s.heap 0 0 _ μ 0 [(0, .int (nI a)), (1, .int (nI b)), (2, .int (nI d))] []
  refine J_iload_n (i := 0) (q := 0) (pc1 := 1) dJ8_newLength_cabcc_0 rfl rfl rfl ?_
  refine J_iload_n (i := 1) (q := 1) (pc1 := 2) dJ8_newLength_cabcc_1 rfl rfl rfl ?_
  refine J_iload_n (i := 2) (q := 2) (pc1 := 3) dJ8_newLength_cabcc_2 rfl rfl rfl ?_
  refine J_mmax (pc1 := 6) sbwlMax sbstMax sbiniMath sbcdMax ⟨Nat.le_of_ble_eq_true rfl, Nat.le_of_ble_eq_true rfl, Nat.zero_le _, Nat.zero_le _⟩ dJ8_newLength_cabcc_3 rfl ?_
  refine J_eqI (y := nI (if b < d then d else b)) (nmax_nI hb hd) ?_
  refine J_iadd (pc1 := 7) dJ8_newLength_cabcc_6 rfl ?_
  refine J_eqI (y := nI (a + if b < d then d else b)) (nI_add _ _) ?_
  refine J_istore_n (i := 3) (lv1 := [(3, .int (nI (a + if b < d then d else b))), (0, .int (nI a)), (1, .int (nI b)), (2, .int (nI d))]) (pc1 := 8) dJ8_newLength_cabcc_7 rfl (by decide) rfl rfl ?_
  refine J_iconst (v := 0) (pc1 := 9) dJ8_newLength_cabcc_8 (by decide) rfl ?_
  refine J_iload_n (i := 3) (q := 0) (pc1 := 10) dJ8_newLength_cabcc_9 rfl rfl rfl ?_
  refine J_icmp_ge (tgt := 21) (pc1 := 13) dJ8_newLength_cabcc_10 (by decide) (fun qq => absurd qq (nI_nle2 (by omega) (by omega))) rfl (fun qq => ?_)
  refine J_iload_n (i := 3) (q := 0) (pc1 := 14) dJ8_newLength_cabcc_13 rfl rfl rfl ?_
  refine J_ldc (own := RJ8) (pc1 := 16) sbcn200 dJ8_newLength_cabcc_14 rfl ?_
  refine J_icmp_gt (tgt := 21) (pc1 := 19) dJ8_newLength_cabcc_16 (by decide) (fun qq => absurd qq (show ¬ nI 2147483639 < nI _ from nI_nlt (by omega) (by decide))) rfl (fun qq => ?_)
  refine J_iload_n (i := 3) (q := 0) (pc1 := 20) dJ8_newLength_cabcc_19 rfl rfl rfl ?_
  exact J_iret hr hlk dJ8_newLength_cabcc_20
theorem kJ5_isLatin1 {ad : Nat → Nat → Nat} (hI : gI sE ad) {N n cp : Nat} {ml : Int32} {arr : Nat → Int32} : gMetG l yJ5_isLatin1_aae02 cJ5_isLatin1_aae02 1 (some .boolean) ({ frames := 0, cells := 0, slots := 0, locals := 20 } : Room) D sE (sKd cp N) tc ad sRh sa [.ref (ad 0 0)] (sM n ml arr) (gSame sE (sKd cp N) ad sRh (some (.int 1)) (sM n ml arr)) := by
  refine gMetG_of hI ⟨by decide +kernel, Nat.le_of_ble_eq_true rfl⟩ (fun p e s m args below meth c sz hr hlk => ?_)
  show J p l e ({ frames := 0, cells := 0, slots := 0, locals := 20 } : Room) s m args below meth c cJ5_isLatin1_aae02 1 RJ5 D sE (sKd cp N) tc ad sRh sa (gA sE ad sz) s.heap 0 0 _ (sM n ml arr) 0 [(0, .ref (ad 0 0))] []
  refine J_compact (own := RJ5) (pc1 := 3) flJ5_18 dJ5_isLatin1_aae02_0 rfl ?_
  refine J_if_eq (tgt := 17) (pc1 := 6) dJ5_isLatin1_aae02_3 (by decide) (fun qq => absurd qq (by decide)) rfl (fun qq => ?_)
  refine J_aload_n (i := 0) (q := 0) (pc1 := 7) dJ5_isLatin1_aae02_6 rfl rfl rfl ?_
  refine J_getV (T := TJ4) (pc1 := 10) 1 (v := 0) (rfl) sE0 rfl rfl inJ4 (by decide) rfl flJ5_22 rfl dJ5_isLatin1_aae02_7 rfl ?_
  refine J_if_ne (tgt := 17) (pc1 := 13) dJ5_isLatin1_aae02_10 (by decide) (fun qq => absurd qq (fun z => z rfl)) rfl (fun qq => ?_)
  refine J_iconst (v := 1) (pc1 := 14) dJ5_isLatin1_aae02_13 (by decide) rfl ?_
  refine J_goto (tgt := 18) dJ5_isLatin1_aae02_14 (by decide) ?_
  exact J_zretG (by decide) hr hlk ⟨rfl, rfl, rfl, rfl, rfl, rfl⟩ hI (Nat.le_refl _) (Nat.le_refl _) dJ5_isLatin1_aae02_18
theorem sb_capE {q cp : Nat} (h : cp < q) : (cp + if q - cp < cp + 2 then cp + 2 else q - cp) = sb_cap q cp := by
  unfold sb_cap
  rw [if_neg (show ¬ q ≤ cp by omega)]
  by_cases h2 : q - cp < cp + 2
  · rw [if_pos h2, if_neg (by omega)]; omega
  · rw [if_neg h2]
    by_cases h3 : 2 * cp + 2 < q
    · rw [if_pos h3]; omega
    · rw [if_neg h3]; omega
theorem kJ5_newCapacity {ad : Nat → Nat → Nat} (hI : gI sE ad) {N n cp : Nat} {ml : Int32} {arr : Nat → Int32} {q : Nat} (hqm : cp < q) (hm : cp ≤ 65536) (hq : sb_cap q cp ≤ 65536) : gMetG l yJ5_newCapacity_0f7a4 cJ5_newCapacity_0f7a4 6 (some .int) ({ frames := 2, cells := 0, slots := 0, locals := 100 } : Room) D sE (sKd cp N) tc ad sRh sa [.ref (ad 0 0), .int (nI q)] (sM n ml arr) (gSame sE (sKd cp N) ad sRh (some (.int (nI (sb_cap q cp)))) (sM n ml arr)) := by
  have hq1 := sb_cap_ge q cp
  refine gMetG_of hI ⟨by decide +kernel, Nat.le_of_ble_eq_true rfl⟩ (fun p e s m args below meth c sz hr hlk => ?_)
  show J p l e ({ frames := 2, cells := 0, slots := 0, locals := 100 } : Room) s m args below meth c cJ5_newCapacity_0f7a4 6 RJ5 D sE (sKd cp N) tc ad sRh sa (gA sE ad sz) s.heap 0 0 _ (sM n ml arr) 0 [(0, .ref (ad 0 0)), (1, .int (nI q))] []
  refine J_aload_n (i := 0) (q := 0) (pc1 := 1) dJ5_newCapacity_0f7a4_0 rfl rfl rfl ?_
  refine J_getR (T := TJ4) (f' := 1) (i' := 0) (pc1 := 4) sE0 rfl rfl inJ4 0 (by decide) rfl (rfl) flJ5_15 rfl dJ5_newCapacity_0f7a4_1 rfl ?_
  refine J_alen (ty := .byte) (v := nI cp) (pc1 := 5) sE1 rfl rfl (rfl) dJ5_newCapacity_0f7a4_4 rfl ?_
  refine J_istore_n (i := 2) (lv1 := [(2, .int (nI cp)), (0, .ref (ad 0 0)), (1, .int (nI q))]) (pc1 := 6) dJ5_newCapacity_0f7a4_5 rfl (by decide) rfl rfl ?_
  refine J_iload_n (i := 1) (q := 2) (pc1 := 7) dJ5_newCapacity_0f7a4_6 rfl rfl rfl ?_
  refine J_aload_n (i := 0) (q := 1) (pc1 := 8) dJ5_newCapacity_0f7a4_7 rfl rfl rfl ?_
  refine J_getV (T := TJ4) (pc1 := 11) 1 (v := 0) (rfl) sE0 rfl rfl inJ4 (by decide) rfl flJ5_22 rfl dJ5_newCapacity_0f7a4_8 rfl ?_
  refine J_ishl (pc1 := 12) dJ5_newCapacity_0f7a4_11 rfl ?_
  refine J_eqI (y := nI q) (sb_shl0 _) ?_
  refine J_istore_n (i := 3) (lv1 := [(3, .int (nI q)), (2, .int (nI cp)), (0, .ref (ad 0 0)), (1, .int (nI q))]) (pc1 := 13) dJ5_newCapacity_0f7a4_12 rfl (by decide) rfl rfl ?_
  refine J_iload_n (i := 3) (q := 0) (pc1 := 14) dJ5_newCapacity_0f7a4_13 rfl rfl rfl ?_
  refine J_iload_n (i := 2) (q := 1) (pc1 := 15) dJ5_newCapacity_0f7a4_14 rfl rfl rfl ?_
  refine J_isub (pc1 := 16) dJ5_newCapacity_0f7a4_15 rfl ?_
  refine J_eqI (y := nI (q - cp)) (pk_sub (by omega)) ?_
  refine J_istore (i := 4) (lv1 := [(4, .int (nI (q - cp))), (3, .int (nI q)), (2, .int (nI cp)), (0, .ref (ad 0 0)), (1, .int (nI q))]) (pc1 := 18) dJ5_newCapacity_0f7a4_16 (by decide) rfl rfl ?_
  refine J_iload_n (i := 2) (q := 2) (pc1 := 19) dJ5_newCapacity_0f7a4_18 rfl rfl rfl ?_
  refine J_iload (i := 4) (q := 0) (pc1 := 21) dJ5_newCapacity_0f7a4_19 rfl rfl ?_
  refine J_iload_n (i := 2) (q := 2) (pc1 := 22) dJ5_newCapacity_0f7a4_21 rfl rfl rfl ?_
  refine J_iconst (v := 2) (pc1 := 23) dJ5_newCapacity_0f7a4_22 (by decide) rfl ?_
  refine J_aload_n (i := 0) (q := 3) (pc1 := 24) dJ5_newCapacity_0f7a4_23 rfl rfl rfl ?_
  refine J_getV (T := TJ4) (pc1 := 27) 1 (v := 0) (rfl) sE0 rfl rfl inJ4 (by decide) rfl flJ5_22 rfl dJ5_newCapacity_0f7a4_24 rfl ?_
  refine J_ishl (pc1 := 28) dJ5_newCapacity_0f7a4_27 rfl ?_
  refine J_eqI (y := 2) (sb_shl0 _) ?_
  refine J_iadd (pc1 := 29) dJ5_newCapacity_0f7a4_28 rfl ?_
  refine J_eqI (y := nI (cp + 2)) (nI_add cp 2) ?_
  refine J_callS (As := [.int (nI cp), .int (nI (q - cp)), .int (nI (cp + 2))]) (pc1 := 32) (st := []) (st1 := [.int (nI (cp + if q - cp < cp + 2 then cp + 2 else q - cp))]) (kJ8_newLength l D tc sa hI _ (by omega) (by omega) (by split <;> omega) (by split <;> omega)) wcJ8_newLength_cabcc wlJ5_114 rfl ⟨rfl, rfl, Nat.le_of_ble_eq_true rfl, Nat.le_of_ble_eq_true rfl⟩ ⟨Nat.zero_le _, Nat.zero_le _⟩ (Nat.le_of_ble_eq_true rfl) dJ5_newCapacity_0f7a4_29 rfl rfl ?_
  refine J_eqI (y := nI (sb_cap q cp)) (congrArg nI (sb_capE hqm)) ?_
  refine J_istore (i := 5) (lv1 := [(5, .int (nI (sb_cap q cp))), (4, .int (nI (q - cp))), (3, .int (nI q)), (2, .int (nI cp)), (0, .ref (ad 0 0)), (1, .int (nI q))]) (pc1 := 34) dJ5_newCapacity_0f7a4_32 (by decide) rfl rfl ?_
  refine J_iload (i := 5) (q := 0) (pc1 := 36) dJ5_newCapacity_0f7a4_34 rfl rfl ?_
  refine J_ldc (own := RJ5) (pc1 := 38) sbcn39 dJ5_newCapacity_0f7a4_36 rfl ?_
  refine J_icmp_ne (tgt := 51) (pc1 := 41) dJ5_newCapacity_0f7a4_38 (by decide) (fun qq => ?_) rfl (fun qq => absurd qq (fun z => by have := (nI_eq (by omega) (by decide)).mp (show nI (sb_cap q cp) = nI 2147483647 from z); omega))
  refine J_iload (i := 5) (q := 0) (pc1 := 53) dJ5_newCapacity_0f7a4_51 rfl rfl ?_
  refine J_aload_n (i := 0) (q := 4) (pc1 := 54) dJ5_newCapacity_0f7a4_53 rfl rfl rfl ?_
  refine J_getV (T := TJ4) (pc1 := 57) 1 (v := 0) (rfl) sE0 rfl rfl inJ4 (by decide) rfl flJ5_22 rfl dJ5_newCapacity_0f7a4_54 rfl ?_
  refine J_ishr (pc1 := 58) dJ5_newCapacity_0f7a4_57 rfl ?_
  refine J_eqI (y := nI (sb_cap q cp)) (sb_shr0 _) ?_
  exact J_iretG hr hlk ⟨rfl, rfl, rfl, rfl, rfl, rfl⟩ hI (Nat.le_refl _) (Nat.le_refl _) dJ5_newCapacity_0f7a4_58
def sMcp (n : Nat) (ml : Int32) (arr a2 : Nat → Int32) : gM := fun f i k => if f = 2 ∧ i = 0 then a2 k else sM n ml arr f i k
theorem sMcp_ne {n : Nat} {ml : Int32} {arr a2 : Nat → Int32} {f i : Nat} (h : ¬ (f = 2 ∧ i = 0)) : sMcp n ml arr a2 f i = sM n ml arr f i := by
  funext k
  unfold sMcp
  rw [if_neg h]
theorem gI_sE2 {ad : Nat → Nat → Nat} {b : Nat} (hI : gI sE ad) (hb : ∀ f i, (f, i) ∈ sE → ad f i ≠ b) : gI (sE ++ [(2, 0)]) (gAd ad 2 0 b) := by
  have h0 := hb 0 0 sE0
  have h1 := hb 1 0 sE1
  have h2 := sE_ne hI
  intro i j p q hi hj he
  match i, j, hi, hj with
  | 0, 0, _, _ => rfl
  | 1, 1, _, _ => rfl
  | 2, 2, _, _ => rfl
  | 0, 1, hi, hj => cases hi; cases hj; exact absurd he h2
  | 1, 0, hi, hj => cases hi; cases hj; exact absurd he.symm h2
  | 0, 2, hi, hj => cases hi; cases hj; exact absurd he h0
  | 2, 0, hi, hj => cases hi; cases hj; exact absurd he.symm h0
  | 1, 2, hi, hj => cases hi; cases hj; exact absurd he h1
  | 2, 1, hi, hj => cases hi; cases hj; exact absurd he.symm h1
  | n + 3, _, hi, _ => simp [sE] at hi
  | 0, n + 3, _, hj => simp [sE] at hj
  | 1, n + 3, _, hj => simp [sE] at hj
  | 2, n + 3, _, hj => simp [sE] at hj
def sPc (ad : Nat → Nat → Nat) (n cp q : Nat) (ml : Int32) (arr : Nat → Int32) : gPo := fun o1 E1 kd1 ad1 rh1 μ1 =>
  E1 = sE ++ [(2, 0)] ∧ kd1 = sKd cp q ∧ rh1 = sRh ∧ μ1 = sMcp n ml arr (va_cpy arr (fun _ => 0) 0 0 cp) ∧ o1 = some (.ref (ad1 2 0)) ∧ ad1 0 0 = ad 0 0 ∧ ad1 1 0 = ad 1 0
theorem kJ7_copyOf {ad : Nat → Nat → Nat} (hI : gI sE ad) {N n cp : Nat} {ml : Int32} {arr : Nat → Int32} {q : Nat} (hqm : cp < q) (hq : q ≤ 65536) (hf : sb_Fit arr) : gMetG l yJ7_copyOf_9075b cJ7_copyOf_9075b 3 (some (.array .byte)) ({ frames := 1, cells := 1, slots := q, locals := 120 } : Room) D sE (sKd cp N) tc ad sRh sa [.ref (ad 1 0), .int (nI q)] (sM n ml arr) (sPc ad n cp q ml arr) := by
  refine gMetG_of hI ⟨by decide +kernel, Nat.le_of_ble_eq_true rfl⟩ (fun p e s m args below meth c sz hr hlk => ?_)
  show J p l e ({ frames := 1, cells := 1, slots := q, locals := 120 } : Room) s m args below meth c cJ7_copyOf_9075b 3 RJ7 D sE (sKd cp N) tc ad sRh sa (gA sE ad sz) s.heap 0 0 _ (sM n ml arr) 0 [(0, .ref (ad 1 0)), (1, .int (nI q))] []
  refine J_conv2 (kd1 := sKd cp q) (ad1 := ad) (rh1 := sRh) (μ1 := sM n ml arr) hI (fun f i h => ⟨f, i, h, rfl, sKd_e h⟩) ?_
  refine J_iload_n (i := 1) (q := 1) (pc1 := 1) dJ7_copyOf_9075b_0 rfl rfl rfl ?_
  refine J_aload_n (i := 0) (q := 0) (pc1 := 2) dJ7_copyOf_9075b_1 rfl rfl rfl ?_
  refine J_alen (ty := .byte) (v := nI cp) (pc1 := 3) sE1 rfl rfl (rfl) dJ7_copyOf_9075b_2 rfl ?_
  refine J_icmp_ne (tgt := 14) (pc1 := 6) dJ7_copyOf_9075b_3 (by decide) (fun qq => ?_) rfl (fun qq => absurd qq (fun z => by have := (nI_eq (by omega) (by omega)).mp z; omega))
  refine J_iload_n (i := 1) (q := 1) (pc1 := 15) dJ7_copyOf_9075b_14 rfl rfl rfl ?_
  refine J_newB (N := q) (f0 := 2) (i0 := 0) (pc1 := 17) (by decide) rfl (fun f i row k _ => by unfold sRh; split <;> simp) sbarB (nI_pos (by omega)) (nI_clamp (by omega)) (by show q * 1 ≤ _; omega) (Nat.le_refl _) (by show 0 + q ≤ q; omega) (by funext k; rfl) dJ7_copyOf_9075b_15 rfl (fun b hb => ?_)
  rw [show (Value.ref b) = .ref (gAd ad 2 0 b 2 0) from congrArg Value.ref gAd_at.symm, show (Value.ref (ad 1 0)) = .ref (gAd ad 2 0 b 1 0) from congrArg Value.ref (gAd_ne (by decide)).symm]
  refine J_astore_n (i := 2) (lv1 := [(2, .ref (gAd ad 2 0 b 2 0)), (0, .ref (gAd ad 2 0 b 1 0)), (1, .int (nI q))]) (pc1 := 18) dJ7_copyOf_9075b_17 rfl (by decide) rfl rfl ?_
  refine J_aload_n (i := 0) (q := 1) (pc1 := 19) dJ7_copyOf_9075b_18 rfl rfl rfl ?_
  refine J_iconst (v := 0) (pc1 := 20) dJ7_copyOf_9075b_19 (by decide) rfl ?_
  refine J_aload_n (i := 2) (q := 0) (pc1 := 21) dJ7_copyOf_9075b_20 rfl rfl rfl ?_
  refine J_iconst (v := 0) (pc1 := 22) dJ7_copyOf_9075b_21 (by decide) rfl ?_
  refine J_aload_n (i := 0) (q := 1) (pc1 := 23) dJ7_copyOf_9075b_22 rfl rfl rfl ?_
  refine J_alen (ty := .byte) (v := nI cp) (pc1 := 24) (List.mem_append_left _ sE1) rfl rfl (rfl) dJ7_copyOf_9075b_23 rfl ?_
  refine J_iload_n (i := 1) (q := 2) (pc1 := 25) dJ7_copyOf_9075b_24 rfl rfl rfl ?_
  refine J_mmin (pc1 := 28) sbwlMin sbstMin sbiniMath sbcdMin ⟨Nat.le_of_ble_eq_true rfl, Nat.le_of_ble_eq_true rfl, by show 0 + 1 ≤ 1; omega, by show 0 + q ≤ q; omega⟩ dJ7_copyOf_9075b_25 rfl ?_
  refine J_eqI (y := nI cp) (if_neg (nI_nlt (by omega) (by omega))) ?_
  refine J_copyB (f := 1) (i := 0) (f1 := 2) (i1 := 0) (n0 := cp) (n1 := q) (μ' := sMcp n ml arr (va_cpy arr (fun _ => 0) 0 0 cp)) (pc1 := 31) (List.mem_append_left _ sE1) rfl (List.mem_append_right _ List.mem_cons_self) rfl wlJ7_150 acNat acSt iniSys (by decide) (by decide) (nI_pos (by omega)) (by rw [nI_clamp (by omega), sb_cl0]; omega) (by rw [nI_clamp (by omega), sb_cl0]; omega) (fun j _ => hf _) (by rw [nI_clamp (by omega), sb_cl0]; rfl) (fun f' i' h => sMcp_ne h) ⟨Nat.le_of_ble_eq_true rfl, Nat.le_of_ble_eq_true rfl⟩ dJ7_copyOf_9075b_28 rfl ?_
  refine J_aload_n (i := 2) (q := 0) (pc1 := 32) dJ7_copyOf_9075b_31 rfl rfl rfl ?_
  exact J_aretB hr hlk ⟨rfl, rfl, rfl, rfl, rfl, gAd_ne (by decide), gAd_ne (by decide)⟩ (gI_sE2 hI hb) (by show 0 + 1 ≤ 1; omega) (by show 0 + q ≤ q; omega) dJ7_copyOf_9075b_32
theorem sEn_conv {n cp q : Nat} {ml : Int32} {arr a2 : Nat → Int32} {tc : Nat → ClassId} {ad1 : Nat → Nat → Nat} (f i : Nat) (h : (f, i) ∈ sE) : ∃ f' i', (f', i') ∈ sE ++ [(2, 0)] ∧ (fun f i => if f = 1 then ad1 2 0 else ad1 f i) f i = ad1 f' i' ∧ g_e (sKd q 0) tc (fun f i => if f = 1 then ad1 2 0 else ad1 f i) sRh (sM n ml a2 f i) f i = g_e (sKd cp q) tc ad1 (gRs sRh 0 0 0 (2, 0)) (sMcp n ml arr a2 f' i') f' i' := by
  rcases sE_in h with ⟨rfl, rfl⟩ | ⟨rfl, rfl⟩
  · exact ⟨0, 0, List.mem_append_left _ sE0, rfl, rfl⟩
  · exact ⟨2, 0, List.mem_append_right _ List.mem_cons_self, rfl, rfl⟩
theorem kJ5_ensure {ad : Nat → Nat → Nat} (hI : gI sE ad) {N n cp : Nat} {ml : Int32} {arr : Nat → Int32} {q : Nat} {t : Nat → Nat} (hm : cp ≤ 65536) (hq : sb_cap q cp ≤ 65536) (hnm : n ≤ cp) (hL : sb_Lat t n arr) (hf : sb_Fit arr) : gMetG l yJ5_ensureCapacityInternal_d00df cJ5_ensureCapacityInternal_d00df 3 none ({ frames := 3, cells := sMc q cp, slots := sMs q cp, locals := 200 } : Room) D sE (sKd cp N) tc ad sRh sa [.ref (ad 0 0), .int (nI q)] (sM n ml arr) (sPo ad none t n (sb_cap q cp)) := by
  have hq1 := sb_cap_ge q cp
  refine gMetG_of hI ⟨by decide +kernel, Nat.le_of_ble_eq_true rfl⟩ (fun p e s m args below meth c sz hr hlk => ?_)
  show J p l e ({ frames := 3, cells := sMc q cp, slots := sMs q cp, locals := 200 } : Room) s m args below meth c cJ5_ensureCapacityInternal_d00df 3 RJ5 D sE (sKd cp N) tc ad sRh sa (gA sE ad sz) s.heap 0 0 (MQ below (gQG D tc sE ad sz (sPo ad none t n (sb_cap q cp))) args s (sMc q cp) (sMs q cp) (gA sE ad sz)) (sM n ml arr) 0 [(0, .ref (ad 0 0)), (1, .int (nI q))] []
  refine J_aload_n (i := 0) (q := 0) (pc1 := 1) dJ5_ensureCapacityInternal_d00df_0 rfl rfl rfl ?_
  refine J_getR (T := TJ4) (f' := 1) (i' := 0) (pc1 := 4) sE0 rfl rfl inJ4 0 (by decide) rfl (rfl) flJ5_15 rfl dJ5_ensureCapacityInternal_d00df_1 rfl ?_
  refine J_alen (ty := .byte) (v := nI cp) (pc1 := 5) sE1 rfl rfl (rfl) dJ5_ensureCapacityInternal_d00df_4 rfl ?_
  refine J_aload_n (i := 0) (q := 0) (pc1 := 6) dJ5_ensureCapacityInternal_d00df_5 rfl rfl rfl ?_
  refine J_getV (T := TJ4) (pc1 := 9) 1 (v := 0) (rfl) sE0 rfl rfl inJ4 (by decide) rfl flJ5_22 rfl dJ5_ensureCapacityInternal_d00df_6 rfl ?_
  refine J_ishr (pc1 := 10) dJ5_ensureCapacityInternal_d00df_9 rfl ?_
  refine J_eqI (y := nI cp) (sb_shr0 _) ?_
  refine J_istore_n (i := 2) (lv1 := [(2, .int (nI cp)), (0, .ref (ad 0 0)), (1, .int (nI q))]) (pc1 := 11) dJ5_ensureCapacityInternal_d00df_10 rfl (by decide) rfl rfl ?_
  refine J_iload_n (i := 1) (q := 2) (pc1 := 12) dJ5_ensureCapacityInternal_d00df_11 rfl rfl rfl ?_
  refine J_iload_n (i := 2) (q := 0) (pc1 := 13) dJ5_ensureCapacityInternal_d00df_12 rfl rfl rfl ?_
  refine J_isub (pc1 := 14) dJ5_ensureCapacityInternal_d00df_13 rfl ?_
  have e1 : (nI q - nI cp).toInt = (q : Int) - cp := pk_sub_toInt (by omega) (by omega)
  by_cases hqm : q ≤ cp
  · rw [show sMc q cp = 0 from if_pos hqm, show sMs q cp = 0 from if_pos hqm, show sb_cap q cp = cp from if_pos hqm]
    refine J_if_le (tgt := 38) (pc1 := 17) dJ5_ensureCapacityInternal_d00df_14 (by decide) (fun qq => ?_) rfl (fun qq => absurd (by rw [Int32.le_iff_toInt_le, e1, Int32.toInt_zero]; omega) qq)
    exact J_vretG hr hlk ⟨rfl, rfl, rfl, ⟨N, rfl⟩, rfl, ml, arr, rfl, hL, hf⟩ hI (Nat.zero_le _) (Nat.zero_le _) dJ5_ensureCapacityInternal_d00df_38
  · rw [show sMc q cp = 1 from if_neg hqm, show sMs q cp = sb_cap q cp from if_neg hqm]
    refine J_if_le (tgt := 38) (pc1 := 17) dJ5_ensureCapacityInternal_d00df_14 (by decide) (fun qq => absurd qq (fun z => hqm (by rw [Int32.le_iff_toInt_le, e1, Int32.toInt_zero] at z; omega))) rfl (fun qq => ?_)
    have hg := sb_cap_ge q cp
    have hgm : cp < sb_cap q cp := by omega
    refine J_aload_n (i := 0) (q := 1) (pc1 := 18) dJ5_ensureCapacityInternal_d00df_17 rfl rfl rfl ?_
    refine J_aload_n (i := 0) (q := 1) (pc1 := 19) dJ5_ensureCapacityInternal_d00df_18 rfl rfl rfl ?_
    refine J_getR (T := TJ4) (f' := 1) (i' := 0) (pc1 := 22) sE0 rfl rfl inJ4 0 (by decide) rfl (rfl) flJ5_15 rfl dJ5_ensureCapacityInternal_d00df_19 rfl ?_
    refine J_aload_n (i := 0) (q := 1) (pc1 := 23) dJ5_ensureCapacityInternal_d00df_22 rfl rfl rfl ?_
    refine J_iload_n (i := 1) (q := 2) (pc1 := 24) dJ5_ensureCapacityInternal_d00df_23 rfl rfl rfl ?_
    refine J_runM (o := some (.int (nI (sb_cap q cp)))) (pc1 := 27) (st1 := [.int (nI (sb_cap q cp)), .ref (ad 1 0), .ref (ad 0 0)]) (J_hU (st := [.ref (ad 1 0), .ref (ad 0 0)]) (As := [.int (nI q)]) (kJ5_newCapacity l D tc sa hI (N := N) (by omega) hm hq) wuJ5_104 (fun hb => hb _ slb1) rfl sE0 rfl rfl rfl ⟨Nat.le_of_ble_eq_true rfl, Nat.le_of_ble_eq_true rfl⟩ ⟨Nat.zero_le _, Nat.zero_le _⟩ (Nat.le_of_ble_eq_true rfl) dJ5_ensureCapacityInternal_d00df_24) rfl rfl rfl rfl ?_
    refine J_aload_n (i := 0) (q := 1) (pc1 := 28) dJ5_ensureCapacityInternal_d00df_27 rfl rfl rfl ?_
    refine J_getV (T := TJ4) (pc1 := 31) 1 (v := 0) (rfl) sE0 rfl rfl inJ4 (by decide) rfl flJ5_22 rfl dJ5_ensureCapacityInternal_d00df_28 rfl ?_
    refine J_ishl (pc1 := 32) dJ5_ensureCapacityInternal_d00df_31 rfl ?_
    refine J_eqI (y := nI (sb_cap q cp)) (sb_shl0 _) ?_
    refine J_runN (pc1 := 35) (ce := 1) (sl := sb_cap q cp) (J_hS (st := [.ref (ad 0 0)]) (As := [.ref (ad 1 0), .int (nI (sb_cap q cp))]) (kJ7_copyOf l D tc sa hI (N := N) (q := sb_cap q cp) (by omega) hq hf) wcJ7_copyOf_9075b wlJ5_108 rfl ⟨Nat.le_of_ble_eq_true rfl, Nat.le_of_ble_eq_true rfl⟩ ⟨Nat.le_refl _, by show 0 + sb_cap q cp ≤ sb_cap q cp; omega⟩ (Nat.le_of_ble_eq_true rfl) dJ5_ensureCapacityInternal_d00df_32) rfl rfl (Nat.zero_add _) (fun o1 E1 kd1 ad1 rh1 μ1 hp hI1 hfr => ?_)
    obtain ⟨rfl, rfl, rfl, rfl, rfl, h00, h10⟩ := hp
    show J p l e _ s m args below meth c _ 3 RJ5 D _ _ tc ad1 sRh sa _ s.heap 1 (sb_cap q cp) _ _ 35 _ [.ref (ad1 2 0), .ref (ad 0 0)]
    rw [show (Value.ref (ad 0 0)) = .ref (ad1 0 0) from congrArg Value.ref h00.symm]
    refine J_putRN (T := TJ4) (f' := 2) (i' := 0) (pc1 := 38) (List.mem_append_left _ sE0) hI1 rfl rfl inJ4 tyJ4 tyJ4_ok nmJ4 0 (by decide) rfl flJ5_15 rfl rfl rfl rfl dJ5_ensureCapacityInternal_d00df_35 rfl ?_
    refine J_conv2 (E1 := sE) (kd1 := sKd (sb_cap q cp) 0) (ad1 := fun f i => if f = 1 then ad1 2 0 else ad1 f i) (rh1 := sRh) (μ1 := sM n ml (va_cpy arr (fun _ => 0) 0 0 cp)) (gI_sE (fun z => absurd (hI1 0 2 (0, 0) (2, 0) rfl rfl z) (by decide))) sEn_conv ?_
    exact J_vretG hr hlk ⟨rfl, rfl, h00, ⟨0, rfl⟩, rfl, ml, _, rfl, sb_latKeep hL (fun j hj => sb_cpy0 (by omega)), sb_fitC hf sb_fit0⟩ (gI_sE (fun z => absurd (hI1 0 2 (0, 0) (2, 0) rfl rfl z) (by decide))) (Nat.le_refl _) (Nat.le_refl _) dJ5_ensureCapacityInternal_d00df_38
end SB4
