/-! the reference's writeNumber: an int's letters behind the text so far -/
/-- one letter more, at the place p -/
def wL (μ : gM) (p ch : Nat) : gM := w3 (w3 μ 12 0 p (nI ch)) 0 0 13 (nI (p + 1))
/-- k letters of t, from the place p on -/
def wTf (μ : gM) (p : Nat) (t : Nat → Nat) : Nat → gM
  | 0 => μ
  | k + 1 => wL (wTf μ p t k) (p + k) (t k)
theorem wL_cnt (μ : gM) (p ch : Nat) : wL μ p ch 0 0 13 = nI (p + 1) := by
  unfold wL
  exact w3_at _ _ _ _ _
theorem wTf_cnt {μ : gM} {p : Nat} {t : Nat → Nat} (h : μ 0 0 13 = nI p) : ∀ k, wTf μ p t k 0 0 13 = nI (p + k)
  | 0 => h
  | k + 1 => wL_cnt _ _ _
theorem mX7_writeLetter_eq {μ : gM} {p ch : Nat} (h : μ 0 0 13 = nI p) (hp : p < 700) (hc : ch < 256) : mX7_writeLetter (nI ch) μ = some (wL μ p ch) := by
  unfold mX7_writeLetter gChk gLet wL
  rw [h, if_pos (show inb (nI p) 700 from vp_in_nI hp (by decide)), if_pos (show vp_nar .char (nI ch) = nI ch from Value.int.inj (pk_charN (by omega)).1)]
  show some (w3 (w3 μ 12 0 (nI p).toNatClampNeg (nI ch)) 0 0 13 (w3 μ 12 0 (nI p).toNatClampNeg (nI ch) 0 0 13 + 1)) = _
  have e : w3 μ 12 0 p (nI ch) 0 0 13 = nI p := by rw [w3_ne (by omega)]; exact h
  rw [nI_clamp (by omega), e, nI_1]
theorem mxL_nil {rh : gRh} : mxL [] rh := ⟨fun _ _ h => absurd h List.not_mem_nil, fun _ _ _ _ _ h => absurd h List.not_mem_nil⟩
theorem mxL_one : mxL [(0, 0)] (fun _ _ _ _ => none) := ⟨fun f i h => by
  have : f = 0 ∧ i = 0 := by simpa using h
  omega, fun _ _ _ _ _ _ h => by cases h⟩
theorem mxL_sE : mxL sE sRh := ⟨fun f i h => by rcases sE_in h with ⟨rfl, rfl⟩ | ⟨rfl, rfl⟩ <;> decide, fun f i row k z _ h => by
  unfold sRh at h
  split at h
  · cases h; decide
  · cases h⟩
theorem gRs_lt {f i k : Nat} {row : Nat → Int32} {z : Nat × Nat} (h : gRs sRh 2 0 0 (3, 0) row f i k = some z) : z.1 < 30 := by
  unfold gRs at h
  split at h
  · cases h; decide
  · unfold sRh at h
    split at h
    · cases h; decide
    · cases h
theorem mxL_tE : mxL (tE ++ [(3, 0)]) (gRs sRh 2 0 0 (3, 0)) := ⟨fun f i h => by
  rcases List.mem_append.mp h with h | h
  · rcases tE_in h with ⟨rfl, rfl⟩ | ⟨rfl, rfl⟩ | ⟨rfl, rfl⟩ <;> decide
  · obtain ⟨rfl, rfl⟩ := Prod.mk.inj (List.mem_singleton.mp h); decide, fun f i row k z _ h => gRs_lt h⟩
theorem qE_in {f i : Nat} (h : (f, i) ∈ qE) : (f = 2 ∧ i = 0) ∨ (f = 3 ∧ i = 0) := by
  simpa [qE] using h
theorem mxL_qE : mxL qE (gRs sRh 2 0 0 (3, 0)) := ⟨fun f i h => by rcases qE_in h with ⟨rfl, rfl⟩ | ⟨rfl, rfl⟩ <;> decide, fun f i row k z _ h => gRs_lt h⟩
theorem qE_tE {f i : Nat} (h : (f, i) ∈ qE) : (f, i) ∈ tE ++ [(3, 0)] := by
  rcases qE_in h with ⟨rfl, rfl⟩ | ⟨rfl, rfl⟩
  · exact List.mem_append_left _ tE2
  · exact List.mem_append_right _ List.mem_cons_self
theorem mxA_gAd {a b : Nat → Nat → Nat} {f0 i0 q : Nat} (h : f0 < 30) : gAd (mxA a b) f0 i0 q = mxA (gAd a f0 i0 q) b := by
  funext f i
  by_cases e : f = f0 ∧ i = i0
  · obtain ⟨rfl, rfl⟩ := e
    rw [gAd_at, mxA_a h, gAd_at]
  · rw [gAd_ne e]
    by_cases hf : f < 30
    · rw [mxA_a hf, mxA_a hf, gAd_ne e]
    · unfold mxA
      rw [if_neg hf, if_neg hf]
theorem mxR_ne {Eb : List (Nat × Nat)} {rha rhb : gRh} {f i k f0 i0 : Nat} {row : Nat → Int32} (h0 : f0 < 30) (h : (f, i) ∈ mxE [] Eb) : mxR rha rhb row f i k ≠ some (f0, i0) := by
  rcases mxE_in.mp h with h2 | ⟨f1, h2, rfl⟩
  · exact absurd h2 List.not_mem_nil
  · unfold mxR
    rw [if_neg (by omega)]
    cases rhb row (f1 + 30 - 30) i k with
    | none => simp
    | some z =>
      intro e
      have := Prod.mk.inj (Option.some.inj e)
      omega
theorem J_widen {p : Program} {l : Launch} {e : Env} {R : Room} {s : State} {m : MethodId} {args : Array Value} {below : List Frame} {meth : Method} {c : Code} {cc : ByteArray} {nL : Nat} {own : String} {D : va_G} {E : List (Nat × Nat)} {kd : Nat → gKd} {tc : Nat → ClassId} {ad : Nat → Nat → Nat} {rh : gRh} {sa : Nat → Nat} {A : Nat → Prop} {H0 : Heap} {cells slots : Nat} {Q : State → Prop} {μ : gM} {pc : Nat} {lv : List (Nat × Value)} {st : List Value} {cells1 slots1 : Nat} (h1 : cells ≤ cells1) (h2 : slots ≤ slots1) (k : J p l e R s m args below meth c cc nL own D E kd tc ad rh sa A H0 cells1 slots1 Q μ pc lv st) : J p l e R s m args below meth c cc nL own D E kd tc ad rh sa A H0 cells slots Q μ pc lv st := fun H locs ls C hP hS hl => W.widen h1 h2 (k H locs ls C hP hS hl)
theorem clX7_272 : Cond.classLink RX7 272 RJ4 ∈ BIG := bigT8 (i := 192) rfl rfl
theorem instJ4 : Cond.instantiable RJ4 4 ∈ BIG := bigT2 (i := 122) rfl rfl
theorem wlX7_274 : Cond.methodLink RX7 274 yJ4_init_da8c8 ∈ BIG := bigT8 (i := 193) rfl rfl
theorem imJ4_init_da8c8 : Cond.instanceMethod yJ4_init_da8c8 ∈ BIG := bigT2 (i := 124) rfl rfl
theorem cdJ4_init_da8c8 : Cond.code yJ4_init_da8c8 cJ4_init_da8c8 1 (none) ∈ BIG := bigT2 (i := 125) rfl rfl
theorem wiX7_274 : wCi RX7 274 yJ4_init_da8c8 cJ4_init_da8c8 1 0 := ⟨⟨wlX7_274, imJ4_init_da8c8, iniJ4, cdJ4_init_da8c8⟩, rfl, by decide +kernel⟩
theorem wlX7_277 : Cond.methodLink RX7 277 yJ4_append_15ec4 ∈ BIG := bigT8 (i := 195) rfl rfl
theorem imJ4_append_15ec4 : Cond.instanceMethod yJ4_append_15ec4 ∈ BIG := bigT6 (i := 14) rfl rfl
theorem seJ4_append_15ec4 : Cond.selects yJ4_append_15ec4.cls yJ4_append_15ec4 yJ4_append_15ec4 ∈ BIG := bigT6 (i := 15) rfl rfl
theorem cdJ4_append_15ec4 : Cond.code yJ4_append_15ec4 cJ4_append_15ec4 2 (some (.object "java/lang/StringBuilder")) ∈ BIG := bigT6 (i := 16) rfl rfl
theorem wcJ4_append_15ec4 : wCv yJ4_append_15ec4 cJ4_append_15ec4 2 (some (.object "java/lang/StringBuilder")) 1 := ⟨⟨imJ4_append_15ec4, seJ4_append_15ec4, iniJ4, cdJ4_append_15ec4⟩, by decide +kernel⟩
theorem wlX7_280 : Cond.methodLink RX7 280 yJ4_append_bf812 ∈ BIG := bigT8 (i := 196) rfl rfl
theorem imJ4_append_bf812 : Cond.instanceMethod yJ4_append_bf812 ∈ BIG := bigT6 (i := 109) rfl rfl
theorem seJ4_append_bf812 : Cond.selects yJ4_append_bf812.cls yJ4_append_bf812 yJ4_append_bf812 ∈ BIG := bigT6 (i := 110) rfl rfl
theorem cdJ4_append_bf812 : Cond.code yJ4_append_bf812 cJ4_append_bf812 2 (some (.object "java/lang/StringBuilder")) ∈ BIG := bigT6 (i := 111) rfl rfl
theorem wcJ4_append_bf812 : wCv yJ4_append_bf812 cJ4_append_bf812 2 (some (.object "java/lang/StringBuilder")) 1 := ⟨⟨imJ4_append_bf812, seJ4_append_bf812, iniJ4, cdJ4_append_bf812⟩, by decide +kernel⟩
theorem wlX7_283 : Cond.methodLink RX7 283 yJ4_toString_0e30d ∈ BIG := bigT8 (i := 197) rfl rfl
theorem imJ4_toString_0e30d : Cond.instanceMethod yJ4_toString_0e30d ∈ BIG := bigT6 (i := 134) rfl rfl
theorem seJ4_toString_0e30d : Cond.selects yJ4_toString_0e30d.cls yJ4_toString_0e30d yJ4_toString_0e30d ∈ BIG := bigT6 (i := 135) rfl rfl
theorem cdJ4_toString_0e30d : Cond.code yJ4_toString_0e30d cJ4_toString_0e30d 1 (some (.object "java/lang/String")) ∈ BIG := bigT6 (i := 136) rfl rfl
theorem wcJ4_toString_0e30d : wCv yJ4_toString_0e30d cJ4_toString_0e30d 1 (some (.object "java/lang/String")) 0 := ⟨⟨imJ4_toString_0e30d, seJ4_toString_0e30d, iniJ4, cdJ4_toString_0e30d⟩, by decide +kernel⟩
theorem wlX7_287 : Cond.methodLink RX7 287 yJ0_length_8abf5 ∈ BIG := bigT8 (i := 198) rfl rfl
theorem wlX7_289 : Cond.methodLink RX7 289 yX7_writeLetter ∈ BIG := bigT8 (i := 184) rfl rfl
theorem imX7_writeLetter : Cond.instanceMethod yX7_writeLetter ∈ BIG := bigT8 (i := 186) rfl rfl
theorem seX7_writeLetter : Cond.selects yX7_writeLetter.cls yX7_writeLetter yX7_writeLetter ∈ BIG := bigS6 (i := 6) (q := (yX7_writeLetter, 14)) rfl
theorem cdX7_writeLetter : Cond.code yX7_writeLetter cX7_writeLetter 2 (none) ∈ BIG := bigT8 (i := 187) rfl rfl
theorem wcX7_writeLetter : wCv yX7_writeLetter cX7_writeLetter 2 (none) 1 := ⟨⟨imX7_writeLetter, seX7_writeLetter, iniX7, cdX7_writeLetter⟩, by decide +kernel⟩
section SB9
variable (l : Launch) (D : va_G) (tc : Nat → ClassId) (sa : Nat → Nat)
theorem wn_loop {p : Program} {e : Env} {s : State} {m : MethodId} {args : Array Value} {below : List Frame} {meth : Method} {c : Code} {A : Nat → Prop} {Q : State → Prop} {ad ad4 : Nat → Nat → Nat} {x : Int32} {n len : Nat} {ml : Int32} {arr a2 : Nat → Int32} {t : Nat → Nat} {μ : gM} {H0 : Heap} (hI : gI gE_R ad) (hI6 : gI (mxE qE gE_R) (mxA ad4 ad)) (h13 : μ 0 0 13 = nI len) (hlen : len + n ≤ 700) (hL : sb_Lat t n a2) (hn : n ≤ 65536) : ∀ (d k : Nat), k + d = n →
    J p l e ({ frames := 12, cells := 4, slots := 40, locals := 900 } : Room) s m args below meth c cX7_writeNumber 4 RX7 D (mxE qE gE_R) (mxK (tKd 16 n) gkd_R) tc (mxA ad4 ad) (mxR (gRs sRh 2 0 0 (3, 0)) grh_R) sa A H0 4 40 Q (mxM (tM n ml arr a2) (wTf μ len t n)) 46 [] [] → J p l e ({ frames := 12, cells := 4, slots := 40, locals := 900 } : Room) s m args below meth c cX7_writeNumber 4 RX7 D (mxE qE gE_R) (mxK (tKd 16 n) gkd_R) tc (mxA ad4 ad) (mxR (gRs sRh 2 0 0 (3, 0)) grh_R) sa A H0 4 40 Q (mxM (tM n ml arr a2) (wTf μ len t k)) 23 [(3, .int (nI k)), (2, .ref (ad4 2 0)), (0, .ref (ad 0 0)), (1, .int x)] [] := by
  intro d
  induction d with
  | zero =>
    intro k hk hK
    refine J_iload_n (i := 3) (q := 0) (pc1 := 24) dX7_writeNumber_23 rfl rfl rfl ?_
    refine J_aload_n (i := 2) (q := 1) (pc1 := 25) dX7_writeNumber_24 rfl rfl rfl ?_
    refine J_mixAM (o := some (.int (nI n))) (pc1 := 28) (st1 := [.int (nI n), .int (nI k)]) hI6 mxL_qE (J_hV (st := [.int (nI k)]) (As := []) (kQ_length l D tc sa (gI_mxa mxL_qE.1 hI6) (n := n) (cp := 16) (ml := ml) (arr := arr) (a2 := a2) hn) wcJ0_length_8abf5 rfl wlX7_287 rfl (mxE_a qE2) rfl rfl rfl ⟨Nat.le_of_ble_eq_true rfl, Nat.le_of_ble_eq_true rfl⟩ ⟨Nat.le_of_ble_eq_true rfl, Nat.le_of_ble_eq_true rfl⟩ (Nat.le_of_ble_eq_true rfl) dX7_writeNumber_25) rfl rfl rfl rfl ?_
    refine J_icmp_ge (tgt := 46) (pc1 := 31) dX7_writeNumber_28 (by decide) (fun qq => ?_) rfl (fun qq => absurd (nI_le (by omega) (by omega)) qq)
    obtain rfl : k = n := by omega
    exact J_sub [] rfl hK
  | succ d ih =>
    intro k hk hK
    refine J_iload_n (i := 3) (q := 0) (pc1 := 24) dX7_writeNumber_23 rfl rfl rfl ?_
    refine J_aload_n (i := 2) (q := 1) (pc1 := 25) dX7_writeNumber_24 rfl rfl rfl ?_
    refine J_mixAM (o := some (.int (nI n))) (pc1 := 28) (st1 := [.int (nI n), .int (nI k)]) hI6 mxL_qE (J_hV (st := [.int (nI k)]) (As := []) (kQ_length l D tc sa (gI_mxa mxL_qE.1 hI6) (n := n) (cp := 16) (ml := ml) (arr := arr) (a2 := a2) hn) wcJ0_length_8abf5 rfl wlX7_287 rfl (mxE_a qE2) rfl rfl rfl ⟨Nat.le_of_ble_eq_true rfl, Nat.le_of_ble_eq_true rfl⟩ ⟨Nat.le_of_ble_eq_true rfl, Nat.le_of_ble_eq_true rfl⟩ (Nat.le_of_ble_eq_true rfl) dX7_writeNumber_25) rfl rfl rfl rfl ?_
    refine J_icmp_ge (tgt := 46) (pc1 := 31) dX7_writeNumber_28 (by decide) (fun qq => absurd qq (nI_ge (by omega) (by omega))) rfl (fun qq => ?_)
    refine J_aload_n (i := 0) (q := 2) (pc1 := 32) dX7_writeNumber_31 rfl rfl rfl ?_
    refine J_aload_n (i := 2) (q := 1) (pc1 := 33) dX7_writeNumber_32 rfl rfl rfl ?_
    refine J_iload_n (i := 3) (q := 0) (pc1 := 34) dX7_writeNumber_33 rfl rfl rfl ?_
    refine J_mixAM (o := some (.int (nI (t k)))) (pc1 := 37) (st1 := [.int (nI (t k)), .ref (ad 0 0)]) hI6 mxL_qE (J_hV (st := [.ref (ad 0 0)]) (As := [.int (nI k)]) (kQ_charAt l D tc sa (gI_mxa mxL_qE.1 hI6) (cp := 16) (ml := ml) (arr := arr) hn (i := k) (t := t) (by omega) hL) wcJ0_charAt_5068e rfl wlX7_219 rfl (mxE_a qE2) rfl rfl rfl ⟨Nat.le_of_ble_eq_true rfl, Nat.le_of_ble_eq_true rfl⟩ ⟨Nat.le_of_ble_eq_true rfl, Nat.le_of_ble_eq_true rfl⟩ (Nat.le_of_ble_eq_true rfl) dX7_writeNumber_34) rfl rfl rfl rfl ?_
    refine J_mixB (o := none) (μ1 := wL (wTf μ len t k) (len + k) (t k)) (pc1 := 40) (st1 := []) hI6 mxL_qE (J_hV (st := []) (As := [.int (nI (t k))]) (gMet.G hI ⟨rfl, rfl⟩ (kX7_writeLetter l D tc sa ad hI (nI (t k)) (wTf μ len t k) _ (mX7_writeLetter_eq (wTf_cnt h13 k) (by omega) (hL k (by omega)).1))) wcX7_writeLetter rfl wlX7_289 mxA_b.symm (mxE_b eR0) rfl rfl rfl ⟨Nat.le_of_ble_eq_true rfl, Nat.le_of_ble_eq_true rfl⟩ ⟨Nat.le_of_ble_eq_true rfl, Nat.le_of_ble_eq_true rfl⟩ (Nat.le_of_ble_eq_true rfl) dX7_writeNumber_37) rfl rfl rfl rfl ?_
    refine J_iinc (q := 0) (v := nI (k + 1)) (lv1 := [(3, .int (nI (k + 1))), (2, .ref (ad4 2 0)), (0, .ref (ad 0 0)), (1, .int x)]) (pc1 := 43) dX7_writeNumber_40 rfl (nI_1 k) (by decide) rfl rfl ?_
    refine J_goto (tgt := 23) dX7_writeNumber_43 (by decide) ?_
    exact J_sub [0, 1, 2, 3] rfl (ih (k + 1) (by omega) hK)
theorem kX7_writeNumber {ad : Nat → Nat → Nat} (hI : gI gE_R ad) {x : Int32} {μ : gM} {len : Nat} (h13 : μ 0 0 13 = nI len) (hlen : len + sb_lenI x ≤ 700) : gMetG l yX7_writeNumber cX7_writeNumber 4 none ({ frames := 12, cells := 4, slots := 40, locals := 900 } : Room) D gE_R gkd_R tc ad grh_R sa [.ref (ad 0 0), .int x] μ (gSame gE_R gkd_R ad grh_R none (wTf μ len (sb_decI x) (sb_lenI x))) := by
  refine gMetG_of hI ⟨by decide +kernel, Nat.le_of_ble_eq_true rfl⟩ (fun p e s m args below meth c sz hr hlk => ?_)
  show J p l e ({ frames := 12, cells := 4, slots := 40, locals := 900 } : Room) s m args below meth c cX7_writeNumber 4 RX7 D  gE_R gkd_R tc ad grh_R sa (gA gE_R ad sz) s.heap 0 0 (MQ below (gQG D tc gE_R ad sz (gSame gE_R gkd_R ad grh_R none (wTf μ len (sb_decI x) (sb_lenI x)))) args s 4 40 (gA gE_R ad sz)) μ 0 [(0, .ref (ad 0 0)), (1, .int x)] []
  have hb11 := sb_lenI_le x
  have hE0 : gI (mxE [] gE_R) (mxA ad ad) := gI_mx (fun _ _ h => absurd h List.not_mem_nil) (fun i j p q hi _ _ => by cases i <;> cases hi) hI (fun _ _ _ _ h _ => absurd h List.not_mem_nil)
  refine J_conv2 (E1 := mxE [] gE_R) (kd1 := mxK (sKd 16 0) gkd_R) (ad1 := mxA ad ad) (rh1 := mxR (fun _ _ _ _ => none) grh_R) (μ1 := mxM (fun _ _ _ => 0) μ) hE0 (fun f i h => by
    rcases mxE_in.mp h with h2 | ⟨f0, h2, rfl⟩
    · exact absurd h2 List.not_mem_nil
    · exact ⟨f0, i, h2, mxA_b, mx_gb⟩) ?_
  refine J_newO (N := 4) (ci := 1) (f0 := 0) (i0 := 0) (refs := [0]) (Cn := RJ4) (T := TJ4) (pc1 := 3) (by decide) rfl rfl inJ4 tyJ4 tyJ4_ok (fun k hk => by match k, hk with | 0, _ => rfl | 1, _ => rfl | 2, _ => rfl | 3, _ => rfl) (fun f i row k h => mxR_ne (by decide) h) (fun row k => rfl) (by funext k; rfl) clX7_272 instJ4 iniJ4 (Nat.le_of_ble_eq_true rfl) (Nat.le_of_ble_eq_true rfl) dX7_writeNumber_0 rfl (fun b hb => ?_)
  rw [mxA_gAd (by decide)]
  have hI1 : gI (mxE [(0, 0)] gE_R) (mxA (gAd ad 0 0 b) ad) := gI_mx mxL_one.1 (fun i j p q hi hj _ => by
    match i, j, hi, hj with
    | 0, 0, _, _ => rfl) hI (fun f i f' i' h h2 z => by
    have hfi : f = 0 ∧ i = 0 := by simpa using h
    rw [hfi.1, hfi.2, gAd_at] at z
    exact hb (f' + 30) i' (mxE_b h2) (by rw [mxA_b]; exact z.symm))
  refine J_conv2 (E1 := mxE [(0, 0)] gE_R) (kd1 := mxK (sKd 16 0) gkd_R) (ad1 := mxA (gAd ad 0 0 b) ad) (rh1 := mxR (fun _ _ _ _ => none) grh_R) (μ1 := mxM (fun _ _ _ => 0) μ) hI1 (fun f i h => ⟨f, i, by
    rcases mxE_in.mp h with h2 | ⟨f0, h2, rfl⟩
    · exact List.mem_append_right _ h2
    · exact List.mem_append_left _ (mxE_b h2), rfl, rfl⟩) ?_
  rw [show (Value.ref b) = .ref (gAd ad 0 0 b 0 0) from congrArg Value.ref gAd_at.symm]
  refine J_dup (pc1 := 4) dX7_writeNumber_3 rfl rfl ?_
  refine J_mixA (pc1 := 7) (ce := 2) (sl := 20) hI1 mxL_one (J_hI (st := [.ref (gAd ad 0 0 b 0 0)]) (As := []) (kJ4_init l D tc sa (gI_mxa mxL_one.1 hI1) (fun _ => 0)) wiX7_274 rfl ⟨Nat.le_of_ble_eq_true rfl, Nat.le_of_ble_eq_true rfl⟩ ⟨Nat.le_of_ble_eq_true rfl, Nat.le_of_ble_eq_true rfl⟩ (Nat.le_of_ble_eq_true rfl) dX7_writeNumber_4) rfl rfl rfl (fun o E1 kd1 ad1 rh1 μ1 hp => by obtain ⟨-, rfl, -, -, rfl, -⟩ := hp; exact mxL_sE) (fun o1 E1 kd1 ad1 rh1 μ1 hp hI2 => ?_)
  obtain ⟨rfl, rfl, h00, ⟨N1, rfl⟩, rfl, ml1, arr1, rfl, hL1, hf1⟩ := hp
  show J p l e ({ frames := 12, cells := 4, slots := 40, locals := 900 } : Room) s m args below meth c cX7_writeNumber 4 RX7 D  (mxE sE gE_R) (mxK (sKd 16 N1) gkd_R) tc (mxA ad1 ad) (mxR sRh grh_R) sa (gA gE_R ad sz) s.heap 2 20 _ (mxM (sM 0 ml1 arr1) μ) 7 [(0, .ref (ad 0 0)), (1, .int x)] [.ref (gAd ad 0 0 b 0 0)]
  rw [show (Value.ref (gAd ad 0 0 b 0 0)) = .ref (ad1 0 0) from congrArg Value.ref h00.symm]
  refine J_ldcSW (i := 32) (pc1 := 10) ⟨by decide, rfl, rfl, rfl⟩ dX7_writeNumber_7 rfl ?_
  refine J_mixA (pc1 := 13) (ce := 2) (sl := 20) hI2 mxL_sE (J_hV (st := []) (As := [.ref (sa 96)]) (kJ4_appendE l D tc sa (gI_mxa mxL_sE.1 hI2) (N := N1) (t := fun _ => 0) (by decide) (by decide) hL1 hf1) wcJ4_append_15ec4 rfl wlX7_277 rfl (mxE_a sE0) rfl rfl rfl ⟨Nat.le_of_ble_eq_true rfl, Nat.le_of_ble_eq_true rfl⟩ ⟨Nat.le_of_ble_eq_true rfl, Nat.le_of_ble_eq_true rfl⟩ (Nat.le_of_ble_eq_true rfl) dX7_writeNumber_10) rfl rfl rfl (fun o E1 kd1 ad1 rh1 μ1 hp => by obtain ⟨-, rfl, -, -, rfl, -⟩ := hp; exact mxL_sE) (fun o1 E1 kd1 ad2 rh1 μ1 hp hI3 => ?_)
  obtain ⟨rfl, rfl, h01, ⟨N2, rfl⟩, rfl, ml2, arr2, rfl, hL2, hf2⟩ := hp
  show J p l e ({ frames := 12, cells := 4, slots := 40, locals := 900 } : Room) s m args below meth c cX7_writeNumber 4 RX7 D  (mxE sE gE_R) (mxK (sKd 16 N2) gkd_R) tc (mxA ad2 ad) (mxR sRh grh_R) sa (gA gE_R ad sz) s.heap 2 20 _ (mxM (sM 0 ml2 arr2) μ) 13 [(0, .ref (ad 0 0)), (1, .int x)] [.ref (ad1 0 0)]
  rw [show (Value.ref (ad1 0 0)) = .ref (ad2 0 0) from congrArg Value.ref h01.symm]
  refine J_iload_n (i := 1) (q := 1) (pc1 := 14) dX7_writeNumber_13 rfl rfl rfl ?_
  have e0 : sMc (0 + sb_lenI x) 16 = 0 := if_pos (by omega)
  have e1 : sMs (0 + sb_lenI x) 16 = 0 := if_pos (by omega)
  have e2 : sb_cap (0 + sb_lenI x) 16 = 16 := if_pos (by omega)
  have hc0 : 2 + sMc (0 + sb_lenI x) 16 = 2 := by rw [e0]
  have hc1 : 20 + sMs (0 + sb_lenI x) 16 = 20 := by rw [e1]
  have hd0 : 2 + sMc (0 + sb_lenI x) 16 ≤ 4 := by omega
  have hd1 : 20 + sMs (0 + sb_lenI x) 16 ≤ 40 := by omega
  refine J_mixA (pc1 := 17) (ce := 2) (sl := 20) hI3 mxL_sE (J_hV (st := []) (As := [.int x]) (kJ4_appendInt l D tc sa (gI_mxa mxL_sE.1 hI3) (N := N2) (x := x) (t := fun _ => 0) (by decide) (by omega) (by decide) hL2 hf2) wcJ4_append_bf812 rfl wlX7_280 rfl (mxE_a sE0) rfl rfl rfl ⟨Nat.le_of_ble_eq_true rfl, Nat.le_of_ble_eq_true rfl⟩ ⟨hd0, hd1⟩ (Nat.le_of_ble_eq_true rfl) dX7_writeNumber_14) rfl hc0 hc1 (fun o E1 kd1 ad1 rh1 μ1 hp => by obtain ⟨-, rfl, -, -, rfl, -⟩ := hp; exact mxL_sE) (fun o1 E1 kd1 ad3 rh1 μ1 hp hI4 => ?_)
  obtain ⟨rfl, rfl, h02, ⟨N3, rfl⟩, rfl, ml3, arr3, rfl, hL3, hf3⟩ := hp
  rw [e2]
  rw [Nat.zero_add] at hL3
  rw [show 0 + sb_lenI x = sb_lenI x from Nat.zero_add _]
  show J p l e ({ frames := 12, cells := 4, slots := 40, locals := 900 } : Room) s m args below meth c cX7_writeNumber 4 RX7 D  (mxE sE gE_R) (mxK (sKd 16 N3) gkd_R) tc (mxA ad3 ad) (mxR sRh grh_R) sa (gA gE_R ad sz) s.heap 2 20 _ (mxM (sM (sb_lenI x) ml3 arr3) μ) 17 [(0, .ref (ad 0 0)), (1, .int x)] [.ref (ad2 0 0)]
  rw [show (Value.ref (ad2 0 0)) = .ref (ad3 0 0) from congrArg Value.ref h02.symm]
  refine J_mixC (E1 := sE) (kd1 := tKd 16 (sb_lenI x)) (ad1 := ad3) (rh1 := sRh) (μ1 := sM (sb_lenI x) ml3 arr3) hI4 mxL_sE mxL_sE (fun f i h => by rcases sE_in h with ⟨rfl, rfl⟩ | ⟨rfl, rfl⟩ <;> exact ⟨_, _, h, rfl, rfl⟩) ?_
  have hd2 : 20 + (4 + sb_lenI x) ≤ 40 := by omega
  refine J_widen (cells1 := 2) (slots1 := 36 - sb_lenI x) (Nat.le_refl _) (by omega) ?_
  have hd3 : 36 - sb_lenI x + (4 + sb_lenI x) = 40 := by omega
  refine J_mixA (pc1 := 20) (ce := 4) (sl := 40) hI4 mxL_sE (J_hV (st := []) (As := []) (kJ4_toString l D tc sa (gI_mxa mxL_sE.1 hI4) (n := sb_lenI x) (by decide) (by omega) hf3 hL3) wcJ4_toString_0e30d rfl wlX7_283 rfl (mxE_a sE0) rfl rfl rfl ⟨Nat.le_of_ble_eq_true rfl, Nat.le_of_ble_eq_true rfl⟩ ⟨Nat.le_of_ble_eq_true rfl, Nat.le_of_eq hd3⟩ (Nat.le_of_ble_eq_true rfl) dX7_writeNumber_17) rfl rfl hd3 (fun o E1 kd1 ad1 rh1 μ1 hp => by obtain ⟨rfl, -, rfl, -⟩ := hp; exact mxL_tE) (fun o1 E1 kd1 ad4 rh1 μ1 hp hI5 => ?_)
  obtain ⟨rfl, rfl, rfl, rfl, h03, h14, ml4, arr4, a2, rfl, hL4⟩ := hp
  show J p l e ({ frames := 12, cells := 4, slots := 40, locals := 900 } : Room) s m args below meth c cX7_writeNumber 4 RX7 D  (mxE (tE ++ [(3, 0)]) gE_R) (mxK (tKd 16 (sb_lenI x)) gkd_R) tc (mxA ad4 ad) (mxR (gRs sRh 2 0 0 (3, 0)) grh_R) sa (gA gE_R ad sz) s.heap 4 40 _ (mxM (tM (sb_lenI x) ml4 arr4 a2) μ) 20 [(0, .ref (ad 0 0)), (1, .int x)] [.ref (ad4 2 0)]
  have hIq : gI qE ad4 := fun i j p q hi hj he => by
    have h1 := gI_mem (gI_mxa mxL_tE.1 hI5) (qE_tE (List.mem_of_getElem? hi)) (qE_tE (List.mem_of_getElem? hj)) he
    have h2 : p = q := h1
    subst h2
    match i, j, hi, hj with
    | 0, 0, _, _ => rfl
    | 1, 1, _, _ => rfl
    | 0, 1, hi, hj => cases hi; cases hj
    | 1, 0, hi, hj => cases hi; cases hj
    | n + 2, _, hi, _ => simp [qE] at hi
    | 0, n + 2, _, hj => simp [qE] at hj
    | 1, n + 2, _, hj => simp [qE] at hj
  have hI6 : gI (mxE qE gE_R) (mxA ad4 ad) := gI_mxC hI5 mxL_tE.1 (fun f i h => qE_tE h) hIq
  refine J_mixC (E1 := qE) (kd1 := tKd 16 (sb_lenI x)) (ad1 := ad4) (rh1 := (gRs sRh 2 0 0 (3, 0))) (μ1 := tM (sb_lenI x) ml4 arr4 a2) hI6 mxL_tE mxL_qE (fun f i h => ⟨f, i, qE_tE h, rfl, rfl⟩) ?_
  refine J_astore_n (i := 2) (lv1 := [(2, .ref (ad4 2 0)), (0, .ref (ad 0 0)), (1, .int x)]) (pc1 := 21) dX7_writeNumber_20 rfl (by decide) rfl rfl ?_
  refine J_iconst (v := 0) (pc1 := 22) dX7_writeNumber_21 (by decide) rfl ?_
  refine J_eqI (y := nI 0) (rfl) ?_
  refine J_istore_n (i := 3) (lv1 := [(3, .int (nI 0)), (2, .ref (ad4 2 0)), (0, .ref (ad 0 0)), (1, .int x)]) (pc1 := 23) dX7_writeNumber_22 rfl (by decide) rfl rfl ?_
  have hT : ∀ i, i < sb_lenI x → sb_cat (fun _ => 0) 0 (sb_decI x) i = sb_decI x i := fun i _ => by unfold sb_cat; rw [if_neg (Nat.not_lt_zero _), Nat.sub_zero]
  have hL5 : sb_Lat (sb_decI x) (sb_lenI x) a2 := fun i hi => by have h9 := hL4 i hi; rw [hT i hi] at h9; exact h9
  refine wn_loop l D tc sa hI hI6 h13 hlen hL5 (by omega) (sb_lenI x) 0 (Nat.zero_add _) ?_
  refine J_conv2 (E1 := gE_R) (kd1 := gkd_R) (ad1 := ad) (rh1 := grh_R) (μ1 := wTf μ len (sb_decI x) (sb_lenI x)) hI (fun f i h => ⟨f + 30, i, mxE_b h, mxA_b.symm, mx_gb.symm⟩) ?_
  exact J_vretG hr hlk ⟨rfl, rfl, rfl, rfl, rfl, rfl⟩ hI (Nat.le_refl _) (Nat.le_refl _) dX7_writeNumber_46
end SB9
