section JN
variable {p : Program} {l : Launch} {e : Env} {R : Room} {s : State} {m : MethodId} {args : Array Value} {below : List Frame} {meth : Method} {c : Code} {cc : ByteArray} {nL : Nat} {own : String} {D : va_G} {E : List (Nat × Nat)} {kd : Nat → gKd} {tc : Nat → ClassId} {ad : Nat → Nat → Nat} {rh : gRh} {sa : Nat → Nat} {A : Nat → Prop} {cells slots : Nat} {Q : State → Prop} {μ : gM} {pc : Nat} {lv : List (Nat × Value)} {st : List Value}
theorem J_ifnn {x tgt : Nat} {off : Int} (hdg : decode cc pc = .ok (.ifnonnull off, 3)) (ht : (pc : Int) + off = (tgt : Int)) (k : J p l e R s m args below meth c cc nL own D E kd tc ad rh sa A s.heap cells slots Q μ tgt lv st) : J p l e R s m args below meth c cc nL own D E kd tc ad rh sa A s.heap cells slots Q μ pc lv (.ref x :: st) := fun H locs ls C hP hS hl => lv_ifnonnull C.1 C.2.1 hdg ht (k H locs ls C hP hS hl)
theorem J_ifnnN {off : Int} (hdg : decode cc pc = .ok (.ifnonnull off, 3)) {pc1 : Nat} (hp : pc + 3 = pc1) (k : J p l e R s m args below meth c cc nL own D E kd tc ad rh sa A s.heap cells slots Q μ pc1 lv st) : J p l e R s m args below meth c cc nL own D E kd tc ad rh sa A s.heap cells slots Q μ pc lv (.null :: st) := by
  subst hp
  exact fun H locs ls C hP hS hl => lv_ifnonnullN C.1 C.2.1 hdg (k H locs ls C hP hS hl)
theorem J_getN {f i ci n idx : Nat} {refs : List Nat} {Cn ref : String} {T : u_T} (hE : (f, i) ∈ E) (hk : kd f = .inl (ci, n, refs)) (hc : vwCl[ci]? = some (Cn, T, n)) (hin : ∀ w ∈ u_ws Cn T n, w ∈ BIG) (k0 : Nat) (hlt : k0 < n) (hr : refs.contains k0 = true) (hrh : rh (μ f i) f i k0 = none) (hw : Cond.fieldLink own idx ref (T k0).2.1 (T k0).2.2.1 ∈ BIG) (href : ref = (T k0).1) (hdg : decode cc pc = .ok (.getfield idx, 3)) {pc1 : Nat} (hp : pc + 3 = pc1) (k : J p l e R s m args below meth c cc nL own D E kd tc ad rh sa A s.heap cells slots Q μ pc1 lv (.null :: st)) : J p l e R s m args below meth c cc nL own D E kd tc ad rh sa A s.heap cells slots Q μ pc lv (.ref (ad f i) :: st) := fun H locs ls C hP hS hl => by
  subst hp
  obtain ⟨q0, -, hq⟩ := g_at (kd := kd) (tc := tc) (ad := ad) (rh := rh) (μ := μ) hE
  rw [g_fld hk] at hq
  exact va_get C.1 C.2.1 C.2.2.2.2.1 hin C.2.2.2.1 C.2.2.2.2.2.1.1 hP q0 hq hc k0 hlt (C.2.2.2.2.1 _ hw) (ref := ref) (fun x hx => by rw [href]; exact hx) (v := .null) (by rw [List.getElem?_map, List.getElem?_range hlt]; simp only [Option.map_some, g_v, hr, if_true, hrh]; rfl) hdg (k H locs ls C hP hS hl)
end JN
theorem gh0k {nc i : Nat} {row : Nat → Int32} (h : nc = 2) : grh_C nc row 0 i 1 = some (6, 1) := by subst h; rfl
theorem gh0k1 {i : Nat} {row : Nat → Int32} : grh_C 1 row 0 i 1 = none := rfl
theorem flX6_362 : Cond.fieldLink RX6 362 "QuorumLog" "kept" "LQuorumLog$Cluster;" ∈ BIG := bigT2 (i := 184) rfl rfl
theorem wlX6_365 : Cond.methodLink RX6 365 yX0_copyFrom ∈ BIG := bigT2 (i := 204) rfl rfl
theorem imX0_copyFrom : Cond.instanceMethod yX0_copyFrom ∈ BIG := bigT2 (i := 205) rfl rfl
theorem seX0_copyFrom : Cond.selects yX0_copyFrom.cls yX0_copyFrom yX0_copyFrom ∈ BIG := bigT2 (i := 206) rfl rfl
theorem cdX0_copyFrom : Cond.code yX0_copyFrom cX0_copyFrom 3 (none) ∈ BIG := bigT2 (i := 207) rfl rfl
theorem wcX0_copyFrom : wCv yX0_copyFrom cX0_copyFrom 3 (none) 1 := ⟨⟨imX0_copyFrom, seX0_copyFrom, iniX0, cdX0_copyFrom⟩, by decide +kernel⟩
def mX6_save (nc : Nat)  (μ : gM) : Option (Int32 × gM) :=
  gBp (mX0_copyFrom nc 1 0 μ) fun μ2 =>
  some (μ2 6 1 4, μ2)
set_option maxHeartbeats 4000000 in
set_option maxRecDepth 100000 in
theorem kX6_save (l : Launch) (D : va_G) (tc : Nat → ClassId) (sa : Nat → Nat) (ad : Nat → Nat → Nat) (nc : Nat) (hnc : 0 < nc ∧ nc ≤ 2) (hI : gI (gE_C nc) ad) (h2 : nc = 2) (μ : gM) (r : Int32) (μ' : gM) (h : mX6_save nc  μ = some (r, μ')) : gMet l yX6_save cX6_save 1 (some .int) ({ frames := 5, cells := 0, slots := 0, locals := 145 } : Room) D (gE_C nc) gkd_C tc ad (grh_C nc) sa [.ref (ad 0 0)] μ (some (.int r)) μ' := by
  refine gMet_of hI ⟨by decide +kernel, Nat.le_of_ble_eq_true rfl⟩ (fun p e s m args below meth c sz hr hlk => ?_)
  unfold mX6_save at h
  show JC p l e ({ frames := 5, cells := 0, slots := 0, locals := 145 } : Room) s m args below meth c cX6_save 1 RX6 D tc sa ad nc sz (some (.int r)) μ' μ 0 [(0, .ref (ad 0 0))] []
  refine J_aload_n (i := 0) (q := 0) (pc1 := 1) dX6_save_0 rfl rfl rfl ?_
  refine J_getR (T := TX6) (f' := 6) (i' := 1) (pc1 := 4) eC0 rfl rfl inX6 1 (by decide) rfl (gh0k h2) flX6_362 rfl dX6_save_1 rfl ?_
  refine J_ifnn (tgt := 18) dX6_save_4 (by decide) ?_
  refine J_aload_n (i := 0) (q := 0) (pc1 := 19) dX6_save_18 rfl rfl rfl ?_
  refine J_getR (T := TX6) (f' := 6) (i' := 1) (pc1 := 22) eC0 rfl rfl inX6 1 (by decide) rfl (gh0k h2) flX6_362 rfl dX6_save_19 rfl ?_
  refine J_aload_n (i := 0) (q := 0) (pc1 := 23) dX6_save_22 rfl rfl rfl ?_
  refine J_getR (T := TX6) (f' := 6) (i' := 0) (pc1 := 26) eC0 rfl rfl inX6 0 (by decide) rfl rfl flX6_12 rfl dX6_save_23 rfl ?_
  obtain ⟨μ2, hc1, h⟩ := gBp_s h
  refine J_callV (As := [.ref (ad 6 0)]) (ad := ad) (f := 6) (i := 1) (st := []) (st1 := []) (pc1 := 29) (kX0_copyFrom l D tc sa ad nc hnc hI 1 (by omega : 1 < nc) 0 (hnc.1) μ μ2 hc1) wcX0_copyFrom wlX6_365 (eC6 (by omega : 1 < nc)) rfl rfl rfl ⟨rfl, rfl, Nat.le_of_ble_eq_true rfl, Nat.le_of_ble_eq_true rfl⟩ ⟨Nat.zero_le _, Nat.zero_le _⟩ (Nat.le_of_ble_eq_true rfl) dX6_save_26 rfl rfl ?_
  refine J_aload_n (i := 0) (q := 0) (pc1 := 30) dX6_save_29 rfl rfl rfl ?_
  refine J_getR (T := TX6) (f' := 6) (i' := 1) (pc1 := 33) eC0 rfl rfl inX6 1 (by decide) rfl (gh0k h2) flX6_362 rfl dX6_save_30 rfl ?_
  refine J_getI (T := TX0) (pc1 := 36) (eC6 (by omega : 1 < nc)) rfl rfl inX0 4 (by decide) rfl flX6_60 rfl dX6_save_33 rfl ?_
  cases h
  exact J_iret hr hlk dX6_save_36
def mX6_restore (nc : Nat)  (μ : gM) : Option (Sum (String × gM) ((Int32 × gM))) :=
  gBp (mX0_copyFrom nc 0 1 μ) fun μ2 =>
  some (.inr (μ2 6 0 4, μ2))
set_option maxHeartbeats 4000000 in
set_option maxRecDepth 100000 in
theorem kX6_restore (l : Launch) (D : va_G) (tc : Nat → ClassId) (sa : Nat → Nat) (ad : Nat → Nat → Nat) (nc : Nat) (hnc : 0 < nc ∧ nc ≤ 2) (hI : gI (gE_C nc) ad) (h2 : nc = 2) (μ : gM) (r : Int32) (μ' : gM) (h : mX6_restore nc  μ = some (.inr (r, μ'))) : gMet l yX6_restore cX6_restore 1 (some .int) ({ frames := 5, cells := 0, slots := 0, locals := 145 } : Room) D (gE_C nc) gkd_C tc ad (grh_C nc) sa [.ref (ad 0 0)] μ (some (.int r)) μ' := by
  refine gMet_of hI ⟨by decide +kernel, Nat.le_of_ble_eq_true rfl⟩ (fun p e s m args below meth c sz hr hlk => ?_)
  unfold mX6_restore at h
  show JC p l e ({ frames := 5, cells := 0, slots := 0, locals := 145 } : Room) s m args below meth c cX6_restore 1 RX6 D tc sa ad nc sz (some (.int r)) μ' μ 0 [(0, .ref (ad 0 0))] []
  refine J_aload_n (i := 0) (q := 0) (pc1 := 1) dX6_restore_0 rfl rfl rfl ?_
  refine J_getR (T := TX6) (f' := 6) (i' := 1) (pc1 := 4) eC0 rfl rfl inX6 1 (by decide) rfl (gh0k h2) flX6_362 rfl dX6_restore_1 rfl ?_
  refine J_ifnn (tgt := 18) dX6_restore_4 (by decide) ?_
  refine J_aload_n (i := 0) (q := 0) (pc1 := 19) dX6_restore_18 rfl rfl rfl ?_
  refine J_getR (T := TX6) (f' := 6) (i' := 0) (pc1 := 22) eC0 rfl rfl inX6 0 (by decide) rfl rfl flX6_12 rfl dX6_restore_19 rfl ?_
  refine J_aload_n (i := 0) (q := 0) (pc1 := 23) dX6_restore_22 rfl rfl rfl ?_
  refine J_getR (T := TX6) (f' := 6) (i' := 1) (pc1 := 26) eC0 rfl rfl inX6 1 (by decide) rfl (gh0k h2) flX6_362 rfl dX6_restore_23 rfl ?_
  obtain ⟨μ2, hc1, h⟩ := gBp_s h
  refine J_callV (As := [.ref (ad 6 1)]) (ad := ad) (f := 6) (i := 0) (st := []) (st1 := []) (pc1 := 29) (kX0_copyFrom l D tc sa ad nc hnc hI 0 (hnc.1) 1 (by omega : 1 < nc) μ μ2 hc1) wcX0_copyFrom wlX6_365 (eC6 hnc.1) rfl rfl rfl ⟨rfl, rfl, Nat.le_of_ble_eq_true rfl, Nat.le_of_ble_eq_true rfl⟩ ⟨Nat.zero_le _, Nat.zero_le _⟩ (Nat.le_of_ble_eq_true rfl) dX6_restore_26 rfl rfl ?_
  refine J_aload_n (i := 0) (q := 0) (pc1 := 30) dX6_restore_29 rfl rfl rfl ?_
  refine J_getR (T := TX6) (f' := 6) (i' := 0) (pc1 := 33) eC0 rfl rfl inX6 0 (by decide) rfl rfl flX6_12 rfl dX6_restore_30 rfl ?_
  refine J_getI (T := TX0) (pc1 := 36) (eC6 hnc.1) rfl rfl inX0 4 (by decide) rfl flX6_60 rfl dX6_restore_33 rfl ?_
  cases h
  exact J_iret hr hlk dX6_restore_36
set_option maxHeartbeats 4000000 in
set_option maxRecDepth 100000 in
theorem tX6_restore (l : Launch) (D : va_G) (tc : Nat → ClassId) (sa : Nat → Nat) (ad : Nat → Nat → Nat) (nc : Nat) (hnc : 0 < nc ∧ nc ≤ 2) (hI : gI (gE_C nc) ad) (h2 : nc = 2) (μ : gM) (hlz : l.stackTraces = false) (E0 : String) (μ' : gM) (h : mX6_restore nc  μ = some (.inl (E0, μ'))) : gMetX l yX6_restore cX6_restore 1 (some .int) ({ frames := 6, cells := 1, slots := 6, locals := 145 } : Room) D (gE_C nc) gkd_C tc ad (grh_C nc) sa [.ref (ad 0 0)] μ E0 μ' := by
  refine gMetX_of hI ⟨by decide +kernel, Nat.le_of_ble_eq_true rfl⟩ (fun p e s m args below meth c sz hr hlk hT => ?_)
  unfold mX6_restore at h
  show JCX p l e ({ frames := 6, cells := 1, slots := 6, locals := 145 } : Room) s m args below meth c cX6_restore 1 RX6 D tc sa ad nc sz E0 μ' μ 0 [(0, .ref (ad 0 0))] []
  refine J_aload_n (i := 0) (q := 0) (pc1 := 1) dX6_restore_0 rfl rfl rfl ?_
  refine J_getR (T := TX6) (f' := 6) (i' := 1) (pc1 := 4) eC0 rfl rfl inX6 1 (by decide) rfl (gh0k h2) flX6_362 rfl dX6_restore_1 rfl ?_
  refine J_ifnn (tgt := 18) dX6_restore_4 (by decide) ?_
  refine J_aload_n (i := 0) (q := 0) (pc1 := 19) dX6_restore_18 rfl rfl rfl ?_
  refine J_getR (T := TX6) (f' := 6) (i' := 0) (pc1 := 22) eC0 rfl rfl inX6 0 (by decide) rfl rfl flX6_12 rfl dX6_restore_19 rfl ?_
  refine J_aload_n (i := 0) (q := 0) (pc1 := 23) dX6_restore_22 rfl rfl rfl ?_
  refine J_getR (T := TX6) (f' := 6) (i' := 1) (pc1 := 26) eC0 rfl rfl inX6 1 (by decide) rfl (gh0k h2) flX6_362 rfl dX6_restore_23 rfl ?_
  obtain ⟨μ2, hc1, h⟩ := gBp_s h
  refine J_callV (As := [.ref (ad 6 1)]) (ad := ad) (f := 6) (i := 0) (st := []) (st1 := []) (pc1 := 29) (kX0_copyFrom l D tc sa ad nc hnc hI 0 (hnc.1) 1 (by omega : 1 < nc) μ μ2 hc1) wcX0_copyFrom wlX6_365 (eC6 hnc.1) rfl rfl rfl ⟨rfl, rfl, Nat.le_of_ble_eq_true rfl, Nat.le_of_ble_eq_true rfl⟩ ⟨Nat.zero_le _, Nat.zero_le _⟩ (Nat.le_of_ble_eq_true rfl) dX6_restore_26 rfl rfl ?_
  refine J_aload_n (i := 0) (q := 0) (pc1 := 30) dX6_restore_29 rfl rfl rfl ?_
  refine J_getR (T := TX6) (f' := 6) (i' := 0) (pc1 := 33) eC0 rfl rfl inX6 0 (by decide) rfl rfl flX6_12 rfl dX6_restore_30 rfl ?_
  refine J_getI (T := TX0) (pc1 := 36) (eC6 hnc.1) rfl rfl inX0 4 (by decide) rfl flX6_60 rfl dX6_restore_33 rfl ?_
  cases h
set_option maxHeartbeats 4000000 in
theorem tX6_restore1 (l : Launch) (D : va_G) (tc : Nat → ClassId) (sa : Nat → Nat) (ad : Nat → Nat → Nat) (hI : gI (gE_C 1) ad) (μ : gM) (hlz : l.stackTraces = false) : gMetX l yX6_restore cX6_restore 1 (some .int) ({ frames := 6, cells := 1, slots := 6, locals := 100 } : Room) D (gE_C 1) gkd_C tc ad (grh_C 1) sa [.ref (ad 0 0)] μ "java/lang/IllegalStateException" μ := by
  refine gMetX_of hI ⟨by decide +kernel, Nat.le_of_ble_eq_true rfl⟩ (fun p e s m args below meth c sz hr hlk hT => ?_)
  refine J_aload_n (i := 0) (q := 0) (pc1 := 1) dX6_restore_0 rfl rfl rfl ?_
  refine J_getN (T := TX6) (pc1 := 4) eC0 rfl rfl inX6 1 (by decide) rfl gh0k1 flX6_362 rfl dX6_restore_1 rfl ?_
  refine J_ifnnN (pc1 := 7) dX6_restore_4 rfl ?_
  exact J_throwSW (i := 23) (text := jsT 23) hlz hT xf_IllegalStateException clX6_103 ini_IllegalStateException ⟨by decide, rfl, rfl, rfl⟩ (xh_IllegalStateException clX6_103) hlk dX6_restore_7 dX6_restore_10 dX6_restore_11 dX6_restore_14 dX6_restore_17 ⟨by decide, by decide, by decide, by decide⟩
