/-! letters behind the text in the class's builder, beside the class's world -/
theorem imJ4_append_cf468 : Cond.instanceMethod yJ4_append_cf468 ∈ BIG := bigT6 (i := 228) rfl rfl
theorem seJ4_append_cf468 : Cond.selects yJ4_append_cf468.cls yJ4_append_cf468 yJ4_append_cf468 ∈ BIG := bigT6 (i := 229) rfl rfl
theorem cdJ4_append_cf468 : Cond.code yJ4_append_cf468 cJ4_append_cf468 2 (some (.object "java/lang/StringBuilder")) ∈ BIG := bigT6 (i := 230) rfl rfl
theorem wcJ4_append_cf468 : wCv yJ4_append_cf468 cJ4_append_cf468 2 (some (.object "java/lang/StringBuilder")) 1 := ⟨⟨imJ4_append_cf468, seJ4_append_cf468, iniJ4, cdJ4_append_cf468⟩, by decide +kernel⟩
theorem seJ4_length_8abf5 : Cond.selects yJ4_length_8abf5.cls yJ4_length_8abf5 yJ4_length_8abf5 ∈ BIG := bigT8 (i := 231) rfl rfl
theorem wcJ4_length_8abf5 : wCv yJ4_length_8abf5 cJ4_length_8abf5 1 (some .int) 0 := ⟨⟨imJ4_length_8abf5, seJ4_length_8abf5, iniJ4, cdJ4_length_8abf5⟩, by decide +kernel⟩
theorem imJ4_setLength_d00df : Cond.instanceMethod yJ4_setLength_d00df ∈ BIG := bigT5 (i := 239) rfl rfl
theorem seJ4_setLength_d00df : Cond.selects yJ4_setLength_d00df.cls yJ4_setLength_d00df yJ4_setLength_d00df ∈ BIG := bigT6 (i := 0) rfl rfl
theorem cdJ4_setLength_d00df : Cond.code yJ4_setLength_d00df cJ4_setLength_d00df 2 (none) ∈ BIG := bigT6 (i := 1) rfl rfl
theorem wcJ4_setLength_d00df : wCv yJ4_setLength_d00df cJ4_setLength_d00df 2 (none) 1 := ⟨⟨imJ4_setLength_d00df, seJ4_setLength_d00df, iniJ4, cdJ4_setLength_d00df⟩, by decide +kernel⟩
/-- the class's builder holds the letters T; what was made since its capacity was c0 -/
def wI (Eb : List (Nat × Nat)) (adb : Nat → Nat → Nat) (c0 : Nat) (T : List Nat) (ada : Nat → Nat → Nat) (cp ce sl : Nat) (arr : Nat → Int32) : Prop :=
  gI (mxE sE Eb) (mxA ada adb) ∧ ada 0 0 = adb 23 0 ∧ sb_Lat (fun i => T.getD i 0) T.length arr ∧ sb_Fit arr ∧ T.length ≤ cp ∧ cp ≤ 1402 ∧ 16 ≤ c0 ∧ 18 * ce + c0 ≤ cp ∧ sl + 2 * c0 ≤ 2 * cp
theorem sb_LatL {T : List Nat} {s : Nat → Nat} {w : Nat} {a : Nat → Int32} (h : sb_Lat (sb_cat (fun i => T.getD i 0) T.length s) (T.length + w) a) : sb_Lat (fun i => (T ++ (List.range w).map s).getD i 0) (T ++ (List.range w).map s).length a := by
  rw [List.length_append, List.length_map, List.length_range]
  intro j hj
  have h9 := h j hj
  have e : (T ++ (List.range w).map s).getD j 0 = sb_cat (fun i => T.getD i 0) T.length s j := by
    unfold sb_cat
    by_cases hl : j < T.length
    · rw [if_pos hl, List.getD_eq_getElem?_getD, List.getElem?_append_left hl]
      exact (List.getD_eq_getElem?_getD ..).symm
    · rw [if_neg hl, List.getD_eq_getElem?_getD, List.getElem?_append_right (by omega), List.getElem?_map, List.getElem?_range (by omega)]
      rfl
  show (T ++ (List.range w).map s).getD j 0 < 256 ∧ a j = sb_b ((T ++ (List.range w).map s).getD j 0)
  rw [e]
  exact h9
theorem sb_LatN {t : Nat → Nat} {n k : Nat} {a : Nat → Int32} (h : sb_Lat t n a) (e : n = k) : sb_Lat t k a := e ▸ h
theorem cap_step {q cp c0 ce sl : Nat} (h1 : cp ≤ 1402) (hq : q ≤ 700) (h16 : 16 ≤ c0) (h2 : 18 * ce + c0 ≤ cp) (h3 : sl + 2 * c0 ≤ 2 * cp) : q ≤ sb_cap q cp ∧ sb_cap q cp ≤ 1402 ∧ 18 * (ce + sMc q cp) + c0 ≤ sb_cap q cp ∧ (sl + sMs q cp) + 2 * c0 ≤ 2 * sb_cap q cp := by
  unfold sMc sMs sb_cap
  by_cases h : q ≤ cp
  · rw [if_pos h, if_pos h, if_pos h]
    omega
  · rw [if_neg h, if_neg h, if_neg h]
    split <;> omega
/-- the capacity behind a row of pieces -/
def capL : Nat → Nat → List (List Nat) → Nat
  | cp, _, [] => cp
  | cp, n, P :: Ps => capL (sb_cap (n + P.length) cp) (n + P.length) Ps
theorem capL_ge : ∀ (Ps : List (List Nat)) (cp n : Nat), cp ≤ capL cp n Ps
  | [], cp, n => Nat.le_refl _
  | P :: Ps, cp, n => Nat.le_trans (sb_cap_gem _ _) (capL_ge Ps _ _)
theorem capL_le : ∀ (Ps : List (List Nat)) (cp n : Nat), cp ≤ 1402 → n + Ps.flatten.length ≤ 700 → capL cp n Ps ≤ 1402
  | [], cp, n, h, _ => h
  | P :: Ps, cp, n, h, h2 => by
    rw [List.flatten_cons, List.length_append] at h2
    refine capL_le Ps _ _ ?_ (by omega)
    unfold sb_cap
    split
    · exact h
    · split <;> omega
section CT
variable {p : Program} {l : Launch} {e : Env} {R : Room} {s : State} {m : MethodId} {args : Array Value} {below : List Frame} {meth : Method} {c : Code} {cc : ByteArray} {nL : Nat} {own : String} {D : va_G} {Eb : List (Nat × Nat)} {kdb : Nat → gKd} {tc : Nat → ClassId} {ada adb : Nat → Nat → Nat} {rhb : gRh} {sa : Nat → Nat} {A : Nat → Prop} {ce sl c0 cp N : Nat} {T : List Nat} {ml : Int32} {arr : Nat → Int32} {Q : State → Prop} {μb : gM} {pc : Nat} {lv : List (Nat × Value)} {st : List Value}

theorem J_appC {idx : Nat} {ch : Nat} (hc : ch < 256) (hw : wI Eb adb c0 T ada cp ce sl arr) (hT : T.length + 1 ≤ 700) (hRc : ∀ y z, 18 * y + c0 ≤ sb_cap (T.length + 1) cp → z + 2 * c0 ≤ 2 * sb_cap (T.length + 1) cp → y ≤ R.cells ∧ z ≤ R.slots) (hFr : 8 ≤ R.frames ∧ 521 ≤ R.locals) (hst : (st.map fun v => v.category).sum ≤ 8) (hlk : Cond.methodLink own idx yJ4_append_cf468 ∈ BIG) (hdg : decode cc pc = .ok (.invokevirtual idx, 3)) {pc1 : Nat} (hp : pc + 3 = pc1)
    (k : ∀ (ada1 : Nat → Nat → Nat) (N1 : Nat) (ml1 : Int32) (arr1 : Nat → Int32) (ce1 sl1 : Nat), wI Eb adb c0 (T ++ [ch]) ada1 (sb_cap (T.length + 1) cp) ce1 sl1 arr1 → J p l e R s m args below meth c cc nL own D (mxE sE Eb) (mxK (sKd (sb_cap (T.length + 1) cp) N1) kdb) tc (mxA ada1 adb) (mxR sRh rhb) sa A s.heap ce1 sl1 Q (mxM (sM (T ++ [ch]).length ml1 arr1) μb) pc1 lv (.ref (adb 23 0) :: st)) : J p l e R s m args below meth c cc nL own D (mxE sE Eb) (mxK (sKd cp N) kdb) tc (mxA ada adb) (mxR sRh rhb) sa A s.heap ce sl Q (mxM (sM T.length ml arr) μb) pc lv (.int (nI ch) :: .ref (adb 23 0) :: st) := by
  obtain ⟨hI, h00, hL, hf, hn, hcp, h16, h18, hsl⟩ := hw
  obtain ⟨q1, q2, q3, q4⟩ := cap_step hcp hT h16 h18 hsl
  rw [← h00]
  refine J_mixA hI mxL_sE (J_hV (st := st) (As := [.int (nI ch)]) (kJ4_appendC l D tc sa (gI_mxa mxL_sE.1 hI) (N := N) (t := fun i => T.getD i 0) hc (by omega) (by omega) hn hL hf) wcJ4_append_cf468 rfl hlk rfl (mxE_a sE0) rfl rfl rfl ⟨hFr.1, hFr.2⟩ (hRc _ _ q3 q4) hst hdg) hp rfl rfl (fun o E1 kd1 ad1 rh1 μ1 hp => by obtain ⟨-, rfl, -, -, rfl, -⟩ := hp; exact mxL_sE) (fun o1 E1 kd1 ada1 rh1 μ1 hp hI1 => ?_)
  obtain ⟨rfl, rfl, g00, ⟨N1, rfl⟩, rfl, ml1, arr1, rfl, hL1, hf1⟩ := hp
  have h9 := k ada1 N1 ml1 arr1 _ _ ⟨hI1, g00.trans h00, by
    have h8 := sb_LatL (T := T) (s := fun _ => ch) (w := 1) hL1
    exact h8, hf1, by rw [show (T ++ [ch]).length = T.length + 1 from by simp]; exact q1, q2, h16, q3, q4⟩
  rw [show (T ++ [ch]).length = T.length + 1 from by simp, ← h00] at h9
  exact h9
theorem J_appI {idx : Nat} {x : Int32} (hw : wI Eb adb c0 T ada cp ce sl arr) (hT : T.length + sb_lenI x ≤ 700) (hRc : ∀ y z, 18 * y + c0 ≤ sb_cap (T.length + sb_lenI x) cp → z + 2 * c0 ≤ 2 * sb_cap (T.length + sb_lenI x) cp → y ≤ R.cells ∧ z ≤ R.slots) (hFr : 8 ≤ R.frames ∧ 521 ≤ R.locals) (hst : (st.map fun v => v.category).sum ≤ 8) (hlk : Cond.methodLink own idx yJ4_append_bf812 ∈ BIG) (hdg : decode cc pc = .ok (.invokevirtual idx, 3)) {pc1 : Nat} (hp : pc + 3 = pc1)
    (k : ∀ (ada1 : Nat → Nat → Nat) (N1 : Nat) (ml1 : Int32) (arr1 : Nat → Int32) (ce1 sl1 : Nat), wI Eb adb c0 (T ++ txI x) ada1 (sb_cap (T.length + sb_lenI x) cp) ce1 sl1 arr1 → J p l e R s m args below meth c cc nL own D (mxE sE Eb) (mxK (sKd (sb_cap (T.length + sb_lenI x) cp) N1) kdb) tc (mxA ada1 adb) (mxR sRh rhb) sa A s.heap ce1 sl1 Q (mxM (sM (T ++ txI x).length ml1 arr1) μb) pc1 lv (.ref (adb 23 0) :: st)) : J p l e R s m args below meth c cc nL own D (mxE sE Eb) (mxK (sKd cp N) kdb) tc (mxA ada adb) (mxR sRh rhb) sa A s.heap ce sl Q (mxM (sM T.length ml arr) μb) pc lv (.int x :: .ref (adb 23 0) :: st) := by
  obtain ⟨hI, h00, hL, hf, hn, hcp, h16, h18, hsl⟩ := hw
  obtain ⟨q1, q2, q3, q4⟩ := cap_step hcp hT h16 h18 hsl
  rw [← h00]
  refine J_mixA hI mxL_sE (J_hV (st := st) (As := [.int x]) (kJ4_appendInt l D tc sa (gI_mxa mxL_sE.1 hI) (N := N) (x := x) (t := fun i => T.getD i 0) (by omega) (by omega) hn hL hf) wcJ4_append_bf812 rfl hlk rfl (mxE_a sE0) rfl rfl rfl ⟨hFr.1, hFr.2⟩ (hRc _ _ q3 q4) hst hdg) hp rfl rfl (fun o E1 kd1 ad1 rh1 μ1 hp => by obtain ⟨-, rfl, -, -, rfl, -⟩ := hp; exact mxL_sE) (fun o1 E1 kd1 ada1 rh1 μ1 hp hI1 => ?_)
  obtain ⟨rfl, rfl, g00, ⟨N1, rfl⟩, rfl, ml1, arr1, rfl, hL1, hf1⟩ := hp
  have h9 := k ada1 N1 ml1 arr1 _ _ ⟨hI1, g00.trans h00, sb_LatL hL1, hf1, by rw [show (T ++ txI x).length = T.length + sb_lenI x from by rw [List.length_append, txI_len]]; exact q1, q2, h16, q3, q4⟩
  rw [show (T ++ txI x).length = T.length + sb_lenI x from by rw [List.length_append, txI_len], ← h00] at h9
  exact h9
theorem J_appLen {idx : Nat} (hw : wI Eb adb c0 T ada cp ce sl arr) (hRc : ce ≤ R.cells ∧ sl ≤ R.slots) (hFr : 8 ≤ R.frames ∧ 521 ≤ R.locals) (hst : (st.map fun v => v.category).sum ≤ 8) (hlk : Cond.methodLink own idx yJ4_length_8abf5 ∈ BIG) (hdg : decode cc pc = .ok (.invokevirtual idx, 3)) {pc1 : Nat} (hp : pc + 3 = pc1) (k : J p l e R s m args below meth c cc nL own D (mxE sE Eb) (mxK (sKd cp N) kdb) tc (mxA ada adb) (mxR sRh rhb) sa A s.heap ce sl Q (mxM (sM T.length ml arr) μb) pc1 lv (.int (nI T.length) :: st)) : J p l e R s m args below meth c cc nL own D (mxE sE Eb) (mxK (sKd cp N) kdb) tc (mxA ada adb) (mxR sRh rhb) sa A s.heap ce sl Q (mxM (sM T.length ml arr) μb) pc lv (.ref (adb 23 0) :: st) := by
  rw [← hw.2.1]
  exact J_mixAM hw.1 mxL_sE (J_hV (st := st) (As := []) (kJ4_length l D tc sa (gI_mxa mxL_sE.1 hw.1) (N := N) (n := T.length) (cp := cp) (ml := ml) (arr := arr)) wcJ4_length_8abf5 rfl hlk rfl (mxE_a sE0) rfl rfl rfl ⟨Nat.le_trans (by decide) hFr.1, Nat.le_trans (by decide) hFr.2⟩ hRc hst hdg) hp rfl rfl rfl k
theorem J_appZ {idx : Nat} (hw : wI Eb adb c0 T ada cp ce sl arr) (hRc : ce ≤ R.cells ∧ sl ≤ R.slots) (hFr : 8 ≤ R.frames ∧ 521 ≤ R.locals) (hst : (st.map fun v => v.category).sum ≤ 8) (hlk : Cond.methodLink own idx yJ4_setLength_d00df ∈ BIG) (hdg : decode cc pc = .ok (.invokevirtual idx, 3)) {pc1 : Nat} (hp : pc + 3 = pc1)
    (k : ∀ (ada1 : Nat → Nat → Nat) (N1 : Nat) (ml1 : Int32) (arr1 : Nat → Int32), wI Eb adb c0 [] ada1 cp ce sl arr1 → J p l e R s m args below meth c cc nL own D (mxE sE Eb) (mxK (sKd cp N1) kdb) tc (mxA ada1 adb) (mxR sRh rhb) sa A s.heap ce sl Q (mxM (sM ([] : List Nat).length ml1 arr1) μb) pc1 lv st) : J p l e R s m args below meth c cc nL own D (mxE sE Eb) (mxK (sKd cp N) kdb) tc (mxA ada adb) (mxR sRh rhb) sa A s.heap ce sl Q (mxM (sM T.length ml arr) μb) pc lv (.int (nI 0) :: .ref (adb 23 0) :: st) := by
  obtain ⟨hI, h00, hL, hf, hn, hcp, h16, h18, hsl⟩ := hw
  rw [← h00]
  refine J_mixA hI mxL_sE (J_hV (st := st) (As := [.int (nI 0)]) (kJ4_setLength l D tc sa (gI_mxa mxL_sE.1 hI) (N := N) (t := fun i => T.getD i 0) (by omega) hn hL hf) wcJ4_setLength_d00df rfl hlk rfl (mxE_a sE0) rfl rfl rfl ⟨hFr.1, hFr.2⟩ hRc hst hdg) hp rfl rfl (fun o E1 kd1 ad1 rh1 μ1 hp => by obtain ⟨-, rfl, -, -, rfl, -⟩ := hp; exact mxL_sE) (fun o1 E1 kd1 ada1 rh1 μ1 hp hI1 => ?_)
  obtain ⟨rfl, rfl, g00, ⟨N1, rfl⟩, rfl, ml1, arr1, rfl, hL1, hf1⟩ := hp
  exact k ada1 N1 ml1 arr1 ⟨hI1, g00.trans h00, fun j hj => absurd hj (Nat.not_lt_zero j), hf1, Nat.zero_le _, hcp, h16, h18, hsl⟩
end CT
