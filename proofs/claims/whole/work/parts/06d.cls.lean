theorem flX6_12 : Cond.fieldLink RX6 12 "QuorumLog" "cluster" "LQuorumLog$Cluster;" ∈ BIG := bigT2 (i := 183) rfl rfl
theorem flX6_66 : Cond.fieldLink RX6 66 "QuorumLog$Cluster" "network" "LQuorumLog$Network;" ∈ BIG := bigT2 (i := 58) rfl rfl
theorem flX6_224 : Cond.fieldLink RX6 224 "QuorumLog$Network" "count" "I" ∈ BIG := bigT2 (i := 28) rfl rfl
theorem wlX6_75 : Cond.methodLink RX6 75 yX6_isNode ∈ BIG := bigT4 (i := 73) rfl rfl
theorem flX6_263 : Cond.fieldLink RX6 263 "QuorumLog$Cluster" "replicas" "[LQuorumLog$Replica;" ∈ BIG := bigT2 (i := 56) rfl rfl
theorem flX6_97 : Cond.fieldLink RX6 97 "QuorumLog$Replica" "isUp" "Z" ∈ BIG := bigT1 (i := 119) rfl rfl
theorem flX6_130 : Cond.fieldLink RX6 130 "QuorumLog$Replica" "role" "I" ∈ BIG := bigT1 (i := 121) rfl rfl
theorem flX6_120 : Cond.fieldLink RX6 120 "QuorumLog$Replica" "log" "LQuorumLog$Log;" ∈ BIG := bigT1 (i := 107) rfl rfl
theorem wlX6_135 : Cond.methodLink RX6 135 yX1_isFull ∈ BIG := bigT4 (i := 147) rfl rfl
theorem imX1_isFull : Cond.instanceMethod yX1_isFull ∈ BIG := bigT4 (i := 148) rfl rfl
theorem seX1_isFull : Cond.selects yX1_isFull.cls yX1_isFull yX1_isFull ∈ BIG := bigT4 (i := 149) rfl rfl
theorem cdX1_isFull : Cond.code yX1_isFull cX1_isFull 1 (some .boolean) ∈ BIG := bigT4 (i := 150) rfl rfl
theorem wcX1_isFull : wCv yX1_isFull cX1_isFull 1 (some .boolean) 0 := ⟨⟨imX1_isFull, seX1_isFull, iniX1, cdX1_isFull⟩, by decide +kernel⟩
theorem wlX6_51 : Cond.methodLink RX6 51 yX6_areTicks ∈ BIG := bigT3 (i := 86) rfl rfl
theorem stX6_areTicks : Cond.static yX6_areTicks ∈ BIG := bigT3 (i := 87) rfl rfl
theorem cdX6_areTicks : Cond.code yX6_areTicks cX6_areTicks 1 (some .boolean) ∈ BIG := bigT3 (i := 88) rfl rfl
theorem wcX6_areTicks : wCs yX6_areTicks cX6_areTicks 1 (some .boolean) 1 := ⟨⟨stX6_areTicks, iniX6, cdX6_areTicks⟩, by decide +kernel⟩
def mX6_messages (nc : Nat)  (μ : gM) : Option Int32 :=
  some (μ 9 0 3)
set_option maxHeartbeats 4000000 in
set_option maxRecDepth 100000 in
theorem kX6_messages (l : Launch) (D : va_G) (tc : Nat → ClassId) (sa : Nat → Nat) (ad : Nat → Nat → Nat) (nc : Nat) (hnc : 0 < nc ∧ nc ≤ 2) (hI : gI (gE_C nc) ad)  (μ : gM) (r : Int32) (h : mX6_messages nc  μ = some r) : gMet l yX6_messages cX6_messages 1 (some .int) ({ frames := 0, cells := 0, slots := 0, locals := 0 } : Room) D (gE_C nc) gkd_C tc ad (grh_C nc) sa [.ref (ad 0 0)] μ (some (.int r)) μ := by
  refine gMet_of hI ⟨by decide +kernel, Nat.le_of_ble_eq_true rfl⟩ (fun p e s m args below meth c sz hr hlk => ?_)
  unfold mX6_messages at h
  show JC p l e ({ frames := 0, cells := 0, slots := 0, locals := 0 } : Room) s m args below meth c cX6_messages 1 RX6 D tc sa ad nc sz (some (.int r)) μ μ 0 [(0, .ref (ad 0 0))] []
  refine J_aload_n (i := 0) (q := 0) (pc1 := 1) dX6_messages_0 rfl rfl rfl ?_
  refine J_getR (T := TX6) (f' := 6) (i' := 0) (pc1 := 4) eC0 rfl rfl inX6 0 (by decide) rfl rfl flX6_12 rfl dX6_messages_1 rfl ?_
  refine J_getR (T := TX0) (f' := 9) (i' := 0) (pc1 := 7) (eC6 hnc.1) rfl rfl inX0 1 (by decide) rfl rfl flX6_66 rfl dX6_messages_4 rfl ?_
  refine J_getI (T := TX3) (pc1 := 10) (eC9 hnc.1) rfl rfl inX3 3 (by decide) rfl flX6_224 rfl dX6_messages_7 rfl ?_
  cases h
  exact J_iret hr hlk dX6_messages_10
def mX6_isPossible (nc : Nat) (a1 : Int32) (a2 : Int32) (a3 : Int32) (μ : gM) : Option Int32 :=
  if a1 = 0 then
    gBp (mX6_areTicks nc a2 μ) fun r32 =>
    gChk (r32 = 0 ∨ r32 = 1) <|
    some r32
  else
    gBp (mX6_isNode nc a2 μ) fun r3 =>
    if r3 = 0 then
      some 0
    else
      gChk (inb a2 5) <|
      if a1 = 1 then
        gChk ((μ 11 (5 * 0 + (a2.toNatClampNeg)) 5) = 0 ∨ (μ 11 (5 * 0 + (a2.toNatClampNeg)) 5) = 1) <|
        some (μ 11 (5 * 0 + (a2.toNatClampNeg)) 5)
      else if a1 = 2 then
        if (μ 11 (5 * 0 + (a2.toNatClampNeg)) 5) = 0 then
          some 1
        else
          some 0
      else if a1 = 3 then
        gBp (mX6_isNode nc a3 μ) fun r12 =>
        if r12 = 0 then
          some 0
        else
          if a2 = a3 then
            some 0
          else
            some 1
      else if a1 = 4 then
        gBp (mX6_isNode nc a3 μ) fun r17 =>
        if r17 = 0 then
          some 0
        else
          if a2 = a3 then
            some 0
          else
            some 1
      else if a1 = 5 then
        if (μ 11 (5 * 0 + (a2.toNatClampNeg)) 6) = 2 then
          gBp (mX1_isFull nc (5 * 0 + (a2.toNatClampNeg)) μ) fun r23 =>
          if r23 = 0 then
            some 1
          else
            some 0
        else
          some 0
      else if a1 = 6 then
        gChk ((μ 11 (5 * 0 + (a2.toNatClampNeg)) 5) = 0 ∨ (μ 11 (5 * 0 + (a2.toNatClampNeg)) 5) = 1) <|
        some (μ 11 (5 * 0 + (a2.toNatClampNeg)) 5)
      else 
        gBp (mX6_isNode nc a3 μ) fun r28 =>
        if r28 = 0 then
          some 0
        else
          if a2 = a3 then
            some 0
          else
            some 1
set_option maxHeartbeats 4000000 in
set_option maxRecDepth 100000 in
theorem kX6_isPossible (l : Launch) (D : va_G) (tc : Nat → ClassId) (sa : Nat → Nat) (ad : Nat → Nat → Nat) (nc : Nat) (hnc : 0 < nc ∧ nc ≤ 2) (hI : gI (gE_C nc) ad) (a1 : Int32) (a2 : Int32) (a3 : Int32) (μ : gM) (r : Int32) (h : mX6_isPossible nc a1 a2 a3 μ = some r) : gMet l yX6_isPossible cX6_isPossible 5 (some .boolean) ({ frames := 1, cells := 0, slots := 0, locals := 20 } : Room) D (gE_C nc) gkd_C tc ad (grh_C nc) sa [.ref (ad 0 0), .int a1, .int a2, .int a3] μ (some (.int r)) μ := by
  refine gMet_of hI ⟨by decide +kernel, Nat.le_of_ble_eq_true rfl⟩ (fun p e s m args below meth c sz hr hlk => ?_)
  unfold mX6_isPossible at h
  show JC p l e ({ frames := 1, cells := 0, slots := 0, locals := 20 } : Room) s m args below meth c cX6_isPossible 5 RX6 D tc sa ad nc sz (some (.int r)) μ μ 0 [(0, .ref (ad 0 0)), (1, .int a1), (2, .int a2), (3, .int a3)] []
  refine J_iload_n (i := 1) (q := 1) (pc1 := 1) dX6_isPossible_0 rfl rfl rfl ?_
  refine J_if_ne (tgt := 9) (pc1 := 4) dX6_isPossible_1 (by decide) (fun q1 => ?_) rfl (fun q1 => ?_)
  · rw [if_neg q1] at h
    refine J_iload_n (i := 2) (q := 2) (pc1 := 10) dX6_isPossible_9 rfl rfl rfl ?_
    obtain ⟨r3, hc2, h⟩ := gBp_s h
    refine J_callS (As := [.int a2]) (st := []) (st1 := [.int r3]) (pc1 := 13) (kX6_isNode l D tc sa ad nc hnc hI a2 μ r3 hc2) wcX6_isNode wlX6_75 rfl ⟨rfl, rfl, Nat.le_of_ble_eq_true rfl, Nat.le_of_ble_eq_true rfl⟩ ⟨Nat.zero_le _, Nat.zero_le _⟩ (Nat.le_of_ble_eq_true rfl) dX6_isPossible_10 rfl rfl ?_
    refine J_if_ne (tgt := 18) (pc1 := 16) dX6_isPossible_13 (by decide) (fun q4 => ?_) rfl (fun q4 => ?_)
    · rw [if_neg q4] at h
      refine J_aload_n (i := 0) (q := 0) (pc1 := 19) dX6_isPossible_18 rfl rfl rfl ?_
      refine J_getR (T := TX6) (f' := 6) (i' := 0) (pc1 := 22) eC0 rfl rfl inX6 0 (by decide) rfl rfl flX6_12 rfl dX6_isPossible_19 rfl ?_
      refine J_getR (T := TX0) (f' := 7) (i' := 0) (pc1 := 25) (eC6 hnc.1) rfl rfl inX0 0 (by decide) rfl rfl flX6_263 rfl dX6_isPossible_22 rfl ?_
      refine J_iload_n (i := 2) (q := 2) (pc1 := 26) dX6_isPossible_25 rfl rfl rfl ?_
      obtain ⟨h5, h⟩ := gChk_s h
      refine J_aald (f' := 11) (i' := (5 * 0 + (a2.toNatClampNeg))) (pc1 := 27) (eC7 hnc.1) rfl rfl h5 rfl dX6_isPossible_26 rfl ?_
      refine J_astore (i := 4) (lv1 := [(4, .ref (ad 11 (5 * 0 + (a2.toNatClampNeg)))), (0, .ref (ad 0 0)), (1, .int a1), (2, .int a2), (3, .int a3)]) (pc1 := 29) dX6_isPossible_27 (by decide) rfl rfl ?_
      refine J_iload_n (i := 1) (q := 2) (pc1 := 30) dX6_isPossible_29 rfl rfl rfl ?_
      by_cases q6 : a1 = 1
      · rw [if_pos q6] at h
        refine J_swIn (v := 1) (off := 38) (tgt := 68) dX6_isPossible_30 q6 (by decide) ?_
        refine J_aload (i := 4) (q := 0) (pc1 := 70) dX6_isPossible_68 rfl rfl ?_
        refine J_getI (T := TX4) (pc1 := 73) (eC11 (gRep hnc.1 h5)) rfl rfl inX4 5 (by decide) rfl flX6_97 rfl dX6_isPossible_70 rfl ?_
        obtain ⟨h7, h⟩ := gChk_s h
        cases h
        exact J_zret h7 hr hlk dX6_isPossible_73
      rw [if_neg q6] at h
      by_cases q8 : a1 = 2
      · rw [if_pos q8] at h
        refine J_swIn (v := 2) (off := 44) (tgt := 74) dX6_isPossible_30 q8 (by decide) ?_
        refine J_aload (i := 4) (q := 0) (pc1 := 76) dX6_isPossible_74 rfl rfl ?_
        refine J_getI (T := TX4) (pc1 := 79) (eC11 (gRep hnc.1 h5)) rfl rfl inX4 5 (by decide) rfl flX6_97 rfl dX6_isPossible_76 rfl ?_
        refine J_if_ne (tgt := 86) (pc1 := 82) dX6_isPossible_79 (by decide) (fun q9 => ?_) rfl (fun q9 => ?_)
        · rw [if_neg q9] at h
          refine J_iconst (v := 0) (pc1 := 87) dX6_isPossible_86 (by decide) rfl ?_
          cases h
          exact J_zret (by decide) hr hlk dX6_isPossible_87
        · rw [if_pos q9] at h
          refine J_iconst (v := 1) (pc1 := 83) dX6_isPossible_82 (by decide) rfl ?_
          refine J_goto (tgt := 87) dX6_isPossible_83 (by decide) ?_
          cases h
          exact J_zret (by decide) hr hlk dX6_isPossible_87
      rw [if_neg q8] at h
      by_cases q10 : a1 = 3
      · rw [if_pos q10] at h
        refine J_swIn (v := 3) (off := 84) (tgt := 114) dX6_isPossible_30 q10 (by decide) ?_
        refine J_iload_n (i := 3) (q := 4) (pc1 := 115) dX6_isPossible_114 rfl rfl rfl ?_
        obtain ⟨r12, hc11, h⟩ := gBp_s h
        refine J_callS (As := [.int a3]) (st := []) (st1 := [.int r12]) (pc1 := 118) (kX6_isNode l D tc sa ad nc hnc hI a3 μ r12 hc11) wcX6_isNode wlX6_75 rfl ⟨rfl, rfl, Nat.le_of_ble_eq_true rfl, Nat.le_of_ble_eq_true rfl⟩ ⟨Nat.zero_le _, Nat.zero_le _⟩ (Nat.le_of_ble_eq_true rfl) dX6_isPossible_115 rfl rfl ?_
        refine J_if_eq (tgt := 130) (pc1 := 121) dX6_isPossible_118 (by decide) (fun q13 => ?_) rfl (fun q13 => ?_)
        · rw [if_pos q13] at h
          refine J_iconst (v := 0) (pc1 := 131) dX6_isPossible_130 (by decide) rfl ?_
          cases h
          exact J_zret (by decide) hr hlk dX6_isPossible_131
        · rw [if_neg q13] at h
          refine J_iload_n (i := 2) (q := 3) (pc1 := 122) dX6_isPossible_121 rfl rfl rfl ?_
          refine J_iload_n (i := 3) (q := 4) (pc1 := 123) dX6_isPossible_122 rfl rfl rfl ?_
          refine J_icmp_eq (tgt := 130) (pc1 := 126) dX6_isPossible_123 (by decide) (fun q14 => ?_) rfl (fun q14 => ?_)
          · rw [if_pos q14] at h
            refine J_iconst (v := 0) (pc1 := 131) dX6_isPossible_130 (by decide) rfl ?_
            cases h
            exact J_zret (by decide) hr hlk dX6_isPossible_131
          · rw [if_neg q14] at h
            refine J_iconst (v := 1) (pc1 := 127) dX6_isPossible_126 (by decide) rfl ?_
            refine J_goto (tgt := 131) dX6_isPossible_127 (by decide) ?_
            cases h
            exact J_zret (by decide) hr hlk dX6_isPossible_131
      rw [if_neg q10] at h
      by_cases q15 : a1 = 4
      · rw [if_pos q15] at h
        refine J_swIn (v := 4) (off := 84) (tgt := 114) dX6_isPossible_30 q15 (by decide) ?_
        refine J_iload_n (i := 3) (q := 4) (pc1 := 115) dX6_isPossible_114 rfl rfl rfl ?_
        obtain ⟨r17, hc16, h⟩ := gBp_s h
        refine J_callS (As := [.int a3]) (st := []) (st1 := [.int r17]) (pc1 := 118) (kX6_isNode l D tc sa ad nc hnc hI a3 μ r17 hc16) wcX6_isNode wlX6_75 rfl ⟨rfl, rfl, Nat.le_of_ble_eq_true rfl, Nat.le_of_ble_eq_true rfl⟩ ⟨Nat.zero_le _, Nat.zero_le _⟩ (Nat.le_of_ble_eq_true rfl) dX6_isPossible_115 rfl rfl ?_
        refine J_if_eq (tgt := 130) (pc1 := 121) dX6_isPossible_118 (by decide) (fun q18 => ?_) rfl (fun q18 => ?_)
        · rw [if_pos q18] at h
          refine J_iconst (v := 0) (pc1 := 131) dX6_isPossible_130 (by decide) rfl ?_
          cases h
          exact J_zret (by decide) hr hlk dX6_isPossible_131
        · rw [if_neg q18] at h
          refine J_iload_n (i := 2) (q := 3) (pc1 := 122) dX6_isPossible_121 rfl rfl rfl ?_
          refine J_iload_n (i := 3) (q := 4) (pc1 := 123) dX6_isPossible_122 rfl rfl rfl ?_
          refine J_icmp_eq (tgt := 130) (pc1 := 126) dX6_isPossible_123 (by decide) (fun q19 => ?_) rfl (fun q19 => ?_)
          · rw [if_pos q19] at h
            refine J_iconst (v := 0) (pc1 := 131) dX6_isPossible_130 (by decide) rfl ?_
            cases h
            exact J_zret (by decide) hr hlk dX6_isPossible_131
          · rw [if_neg q19] at h
            refine J_iconst (v := 1) (pc1 := 127) dX6_isPossible_126 (by decide) rfl ?_
            refine J_goto (tgt := 131) dX6_isPossible_127 (by decide) ?_
            cases h
            exact J_zret (by decide) hr hlk dX6_isPossible_131
      rw [if_neg q15] at h
      by_cases q20 : a1 = 5
      · rw [if_pos q20] at h
        refine J_swIn (v := 5) (off := 58) (tgt := 88) dX6_isPossible_30 q20 (by decide) ?_
        refine J_aload (i := 4) (q := 0) (pc1 := 90) dX6_isPossible_88 rfl rfl ?_
        refine J_getI (T := TX4) (pc1 := 93) (eC11 (gRep hnc.1 h5)) rfl rfl inX4 6 (by decide) rfl flX6_130 rfl dX6_isPossible_90 rfl ?_
        refine J_iconst (v := 2) (pc1 := 94) dX6_isPossible_93 (by decide) rfl ?_
        refine J_icmp_ne (tgt := 112) (pc1 := 97) dX6_isPossible_94 (by decide) (fun q21 => ?_) rfl (fun q21 => ?_)
        · rw [if_neg q21] at h
          refine J_iconst (v := 0) (pc1 := 113) dX6_isPossible_112 (by decide) rfl ?_
          cases h
          exact J_zret (by decide) hr hlk dX6_isPossible_113
        · rw [if_pos q21] at h
          refine J_aload (i := 4) (q := 0) (pc1 := 99) dX6_isPossible_97 rfl rfl ?_
          refine J_getR (T := TX4) (f' := 12) (i' := (5 * 0 + (a2.toNatClampNeg))) (pc1 := 102) (eC11 (gRep hnc.1 h5)) rfl rfl inX4 1 (by decide) rfl rfl flX6_120 rfl dX6_isPossible_99 rfl ?_
          obtain ⟨r23, hc22, h⟩ := gBp_s h
          refine J_callV (As := []) (ad := ad) (f := 12) (i := (5 * 0 + (a2.toNatClampNeg))) (st := []) (st1 := [.int r23]) (pc1 := 105) (kX1_isFull l D tc sa ad nc hnc hI (5 * 0 + (a2.toNatClampNeg)) (gRep hnc.1 h5) μ r23 hc22) wcX1_isFull wlX6_135 (eC12 (gRep hnc.1 h5)) rfl rfl rfl ⟨rfl, rfl, Nat.le_of_ble_eq_true rfl, Nat.le_of_ble_eq_true rfl⟩ ⟨Nat.zero_le _, Nat.zero_le _⟩ (Nat.le_of_ble_eq_true rfl) dX6_isPossible_102 rfl rfl ?_
          refine J_if_ne (tgt := 112) (pc1 := 108) dX6_isPossible_105 (by decide) (fun q24 => ?_) rfl (fun q24 => ?_)
          · rw [if_neg q24] at h
            refine J_iconst (v := 0) (pc1 := 113) dX6_isPossible_112 (by decide) rfl ?_
            cases h
            exact J_zret (by decide) hr hlk dX6_isPossible_113
          · rw [if_pos q24] at h
            refine J_iconst (v := 1) (pc1 := 109) dX6_isPossible_108 (by decide) rfl ?_
            refine J_goto (tgt := 113) dX6_isPossible_109 (by decide) ?_
            cases h
            exact J_zret (by decide) hr hlk dX6_isPossible_113
      rw [if_neg q20] at h
      by_cases q25 : a1 = 6
      · rw [if_pos q25] at h
        refine J_swIn (v := 6) (off := 38) (tgt := 68) dX6_isPossible_30 q25 (by decide) ?_
        refine J_aload (i := 4) (q := 0) (pc1 := 70) dX6_isPossible_68 rfl rfl ?_
        refine J_getI (T := TX4) (pc1 := 73) (eC11 (gRep hnc.1 h5)) rfl rfl inX4 5 (by decide) rfl flX6_97 rfl dX6_isPossible_70 rfl ?_
        obtain ⟨h26, h⟩ := gChk_s h
        cases h
        exact J_zret h26 hr hlk dX6_isPossible_73
      rw [if_neg q25] at h
      refine J_swOut (tgt := 114) dX6_isPossible_30 (by have := i32_ne (k := 1) q6 (by decide); have := i32_ne (k := 2) q8 (by decide); have := i32_ne (k := 3) q10 (by decide); have := i32_ne (k := 4) q15 (by decide); have := i32_ne (k := 5) q20 (by decide); have := i32_ne (k := 6) q25 (by decide); omega) (by decide) ?_
      refine J_iload_n (i := 3) (q := 4) (pc1 := 115) dX6_isPossible_114 rfl rfl rfl ?_
      obtain ⟨r28, hc27, h⟩ := gBp_s h
      refine J_callS (As := [.int a3]) (st := []) (st1 := [.int r28]) (pc1 := 118) (kX6_isNode l D tc sa ad nc hnc hI a3 μ r28 hc27) wcX6_isNode wlX6_75 rfl ⟨rfl, rfl, Nat.le_of_ble_eq_true rfl, Nat.le_of_ble_eq_true rfl⟩ ⟨Nat.zero_le _, Nat.zero_le _⟩ (Nat.le_of_ble_eq_true rfl) dX6_isPossible_115 rfl rfl ?_
      refine J_if_eq (tgt := 130) (pc1 := 121) dX6_isPossible_118 (by decide) (fun q29 => ?_) rfl (fun q29 => ?_)
      · rw [if_pos q29] at h
        refine J_iconst (v := 0) (pc1 := 131) dX6_isPossible_130 (by decide) rfl ?_
        cases h
        exact J_zret (by decide) hr hlk dX6_isPossible_131
      · rw [if_neg q29] at h
        refine J_iload_n (i := 2) (q := 3) (pc1 := 122) dX6_isPossible_121 rfl rfl rfl ?_
        refine J_iload_n (i := 3) (q := 4) (pc1 := 123) dX6_isPossible_122 rfl rfl rfl ?_
        refine J_icmp_eq (tgt := 130) (pc1 := 126) dX6_isPossible_123 (by decide) (fun q30 => ?_) rfl (fun q30 => ?_)
        · rw [if_pos q30] at h
          refine J_iconst (v := 0) (pc1 := 131) dX6_isPossible_130 (by decide) rfl ?_
          cases h
          exact J_zret (by decide) hr hlk dX6_isPossible_131
        · rw [if_neg q30] at h
          refine J_iconst (v := 1) (pc1 := 127) dX6_isPossible_126 (by decide) rfl ?_
          refine J_goto (tgt := 131) dX6_isPossible_127 (by decide) ?_
          cases h
          exact J_zret (by decide) hr hlk dX6_isPossible_131
    · rw [if_pos q4] at h
      refine J_iconst (v := 0) (pc1 := 17) dX6_isPossible_16 (by decide) rfl ?_
      cases h
      exact J_zret (by decide) hr hlk dX6_isPossible_17
  · rw [if_pos q1] at h
    refine J_iload_n (i := 2) (q := 2) (pc1 := 5) dX6_isPossible_4 rfl rfl rfl ?_
    obtain ⟨r32, hc31, h⟩ := gBp_s h
    refine J_callS (As := [.int a2]) (st := []) (st1 := [.int r32]) (pc1 := 8) (kX6_areTicks l D tc sa ad nc hnc hI a2 μ r32 hc31) wcX6_areTicks wlX6_51 rfl ⟨rfl, rfl, Nat.le_of_ble_eq_true rfl, Nat.le_of_ble_eq_true rfl⟩ ⟨Nat.zero_le _, Nat.zero_le _⟩ (Nat.le_of_ble_eq_true rfl) dX6_isPossible_5 rfl rfl ?_
    obtain ⟨h33, h⟩ := gChk_s h
    cases h
    exact J_zret h33 hr hlk dX6_isPossible_8
