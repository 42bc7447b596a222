/-! what holds at the law's start -/
theorem tT0 {w : Cond} (h : w ∈ tables_1) : w ∈ lw_tbl := List.mem_append_right _ h
theorem tT1 {i : Nat} {w : Cond} (h : tables_1_1[i]? = some w) : w ∈ lw_tbl := tT0 (List.mem_append_left _ (List.mem_of_getElem? h))
theorem tT2 {i : Nat} {w : Cond} (h : tables_1_2[i]? = some w) : w ∈ lw_tbl := tT0 (List.mem_append_right _ (List.mem_append_left _ (List.mem_of_getElem? h)))
theorem tT3 {i : Nat} {w : Cond} (h : tables_1_3[i]? = some w) : w ∈ lw_tbl := tT0 (List.mem_append_right _ (List.mem_append_right _ (List.mem_append_left _ (List.mem_of_getElem? h))))
theorem tT4 {i : Nat} {w : Cond} (h : tables_1_4[i]? = some w) : w ∈ lw_tbl := tT0 (List.mem_append_right _ (List.mem_append_right _ (List.mem_append_right _ (List.mem_append_left _ (List.mem_of_getElem? h)))))
theorem tT5 {i : Nat} {w : Cond} (h : tables_1_5[i]? = some w) : w ∈ lw_tbl := tT0 (List.mem_append_right _ (List.mem_append_right _ (List.mem_append_right _ (List.mem_append_right _ (List.mem_append_left _ (List.mem_of_getElem? h))))))
theorem tT6 {i : Nat} {w : Cond} (h : tables_1_6[i]? = some w) : w ∈ lw_tbl := tT0 (List.mem_append_right _ (List.mem_append_right _ (List.mem_append_right _ (List.mem_append_right _ (List.mem_append_right _ (List.mem_append_left _ (List.mem_of_getElem? h)))))))
theorem tT7 {i : Nat} {w : Cond} (h : tables_1_7[i]? = some w) : w ∈ lw_tbl := tT0 (List.mem_append_right _ (List.mem_append_right _ (List.mem_append_right _ (List.mem_append_right _ (List.mem_append_right _ (List.mem_append_right _ (List.mem_append_left _ (List.mem_of_getElem? h))))))))
theorem tT8 {i : Nat} {w : Cond} (h : tables_1_8[i]? = some w) : w ∈ lw_tbl := tT0 (List.mem_append_right _ (List.mem_append_right _ (List.mem_append_right _ (List.mem_append_right _ (List.mem_append_right _ (List.mem_append_right _ (List.mem_append_right _ (List.mem_append_left _ (List.mem_of_getElem? h)))))))))
theorem tT9 {i : Nat} {w : Cond} (h : tables_1_9[i]? = some w) : w ∈ lw_tbl := tT0 (List.mem_append_right _ (List.mem_append_right _ (List.mem_append_right _ (List.mem_append_right _ (List.mem_append_right _ (List.mem_append_right _ (List.mem_append_right _ (List.mem_append_right _ (List.mem_of_getElem? h)))))))))
section Start
variable {s : State} {args : Array Value}
theorem sBIG (hts : ∀ w ∈ lw_tbl, w.before args s = true) : ∀ w ∈ BIG, w.before args s = true := fun w hw => by
  rcases List.mem_append.mp (big_in hw) with h | h
  · simp only [lw_sb, List.mem_cons, List.not_mem_nil, or_false] at h
    rcases h with rfl | rfl | rfl | rfl
    · exact sel_priv (z := yJ5_isLatin1_aae02) ⟨by decide +kernel, by decide +kernel⟩ rfl (hts _ (tT6 (i := 56) rfl)) (hts _ (tT6 (i := 25) rfl)) (hts _ (tT6 (i := 26) rfl))
    · exact sel_priv (z := yJ5_isLatin1_aae02) ⟨by decide +kernel, by decide +kernel⟩ rfl (hts _ (tT6 (i := 56) rfl)) (hts _ (tT6 (i := 29) rfl)) (hts _ (tT6 (i := 30) rfl))
    · exact sel_priv (z := yJ5_isLatin1_aae02) ⟨by decide +kernel, by decide +kernel⟩ rfl (hts _ (tT6 (i := 56) rfl)) (hts _ (tT6 (i := 75) rfl)) (hts _ (tT6 (i := 76) rfl))
    · exact sel_priv (z := yJ5_isLatin1_aae02) ⟨by decide +kernel, by decide +kernel⟩ rfl (hts _ (tT6 (i := 56) rfl)) (hts _ (tT6 (i := 79) rfl)) (hts _ (tT6 (i := 80) rfl))
  · exact hts w h
theorem sCl (hts : ∀ w ∈ lw_tbl, w.before args s = true) : ∀ c : Nat, ∃ z : ClassId × (Nat → Nat), ∀ q : vw_C, vwCl[c]? = some q → u_Kn s q.1 q.2.1 q.2.2 z.1 z.2 := fun c => by
  have hB := sBIG hts
  match c with
  | 0 =>
    obtain ⟨cC, iS, h⟩ := u_known (C := RJ0) (T := TJ0) (N := 4) (n := 4) hB inJ0 (hts _ (tT4 (i := 64) rfl))
    exact ⟨(cC, iS), fun q hq => by cases hq; exact h⟩
  | 1 =>
    obtain ⟨cC, iS, h⟩ := u_known (C := RJ4) (T := TJ4) (N := 4) (n := 4) hB inJ4 (hts _ (tT2 (i := 122) rfl))
    exact ⟨(cC, iS), fun q hq => by cases hq; exact h⟩
  | 2 =>
    obtain ⟨cC, iS, h⟩ := u_known (C := RJx00060) (T := TJx00060) (N := 6) (n := 6) hts (by decide +kernel : ∀ w ∈ u_ws RJx00060 TJx00060 6, w ∈ lw_tbl) (hts _ (tT4 (i := 46) rfl))
    exact ⟨(cC, iS), fun q hq => by cases hq; exact h⟩
  | 3 =>
    obtain ⟨cC, iS, h⟩ := u_known (C := RJx7c733) (T := TJx7c733) (N := 6) (n := 6) hts (by decide +kernel : ∀ w ∈ u_ws RJx7c733 TJx7c733 6, w ∈ lw_tbl) (hts _ (tT6 (i := 6) rfl))
    exact ⟨(cC, iS), fun q hq => by cases hq; exact h⟩
  | 4 =>
    obtain ⟨cC, iS, h⟩ := u_known (C := RX0) (T := TX0) (N := 9) (n := 9) hB inX0 (hts _ (tT1 (i := 41) rfl))
    exact ⟨(cC, iS), fun q hq => by cases hq; exact h⟩
  | 5 =>
    obtain ⟨cC, iS, h⟩ := u_known (C := RX1) (T := TX1) (N := 12) (n := 12) hB inX1 (hts _ (tT1 (i := 54) rfl))
    exact ⟨(cC, iS), fun q hq => by cases hq; exact h⟩
  | 6 =>
    obtain ⟨cC, iS, h⟩ := u_known (C := RX2) (T := TX2) (N := 17) (n := 17) hB inX2 (hts _ (tT1 (i := 171) rfl))
    exact ⟨(cC, iS), fun q hq => by cases hq; exact h⟩
  | 7 =>
    obtain ⟨cC, iS, h⟩ := u_known (C := RX3) (T := TX3) (N := 8) (n := 8) hB inX3 (hts _ (tT1 (i := 164) rfl))
    exact ⟨(cC, iS), fun q hq => by cases hq; exact h⟩
  | 8 =>
    obtain ⟨cC, iS, h⟩ := u_known (C := RX4) (T := TX4) (N := 12) (n := 12) hB inX4 (hts _ (tT1 (i := 48) rfl))
    exact ⟨(cC, iS), fun q hq => by cases hq; exact h⟩
  | 9 =>
    obtain ⟨cC, iS, h⟩ := u_known (C := RX5) (T := TX5) (N := 6) (n := 6) hB inX5 (hts _ (tT2 (i := 92) rfl))
    exact ⟨(cC, iS), fun q hq => by cases hq; exact h⟩
  | 10 =>
    obtain ⟨cC, iS, h⟩ := u_known (C := RX6) (T := TX6) (N := 4) (n := 4) hB inX6 (hts _ (tT1 (i := 33) rfl))
    exact ⟨(cC, iS), fun q hq => by cases hq; exact h⟩
  | 11 =>
    obtain ⟨cC, iS, h⟩ := u_known (C := RX7) (T := TX7) (N := 14) (n := 14) hB inX7 (hts _ (tT7 (i := 33) rfl))
    exact ⟨(cC, iS), fun q hq => by cases hq; exact h⟩
  | c + 12 => exact ⟨(default, fun _ => 0), fun q hq => by simp [vwCl] at hq⟩
theorem sArr {ty : FieldType} (h : (Cond.arrayClass ty).before args s = true) (ho : ∀ C, ty ≠ .object C) : ∃ cA, ArrOfT s cA ty ∧ va_RA s cA ty := by
  obtain ⟨cA, kA, comp, h1, h2, h3⟩ := Cond.arrayClass_spec h
  refine ⟨cA, fun n z => ⟨fun k h => (by cases h), kA, h2, comp, h3⟩, ?_⟩
  cases ty with
  | object C => exact absurd rfl (ho C)
  | _ => exact h1
theorem sArO {C : String} (h : (Cond.arrayOver (.object C)).before args s = true) : ∃ cA, ArrOfT s cA (.object C) ∧ va_RA s cA (.object C) := by
  obtain ⟨comp, cA, kA, h1, -, h2, h3, h4⟩ := Cond.arrayOver_spec h
  exact ⟨cA, fun n z => ⟨fun k h => (by cases h), kA, h2, comp, h3⟩, kA, comp, h2, h3, h1, h4⟩
theorem sK (hts : ∀ w ∈ lw_tbl, w.before args s = true) : ∃ (D : va_G) (tc : Nat → ClassId), va_K D vwCl (gT tc) s := by
  obtain ⟨f, hf⟩ := Classical.axiomOfChoice (sCl hts)
  have hB := sBIG hts
  obtain ⟨t0, a0, b0⟩ := sArr (hB _ arI) (fun C h => by cases h)
  obtain ⟨t1, a1, b1⟩ := sArr (hB _ arC) (fun C h => by cases h)
  obtain ⟨t2, a2, b2⟩ := sArO (C := RX4) (hts _ (tT1 (i := 47) rfl))
  obtain ⟨t3, a3, b3⟩ := sArO (C := RX2) (hts _ (tT1 (i := 170) rfl))
  obtain ⟨t4, a4, b4⟩ := sArr (hB _ sbarB) (fun C h => by cases h)
  refine ⟨(fun c => (f c).1, fun c => (f c).2), fun k => if k = 0 then t0 else if k = 1 then t1 else if k = 2 then t2 else if k = 3 then t3 else t4, fun c q hq => hf c q hq, fun k q hq => ?_⟩
  match k, hq with
  | 0, hq => cases hq; exact ⟨a0, b0⟩
  | 1, hq => cases hq; exact ⟨a1, b1⟩
  | 2, hq => cases hq; exact ⟨a2, b2⟩
  | 3, hq => cases hq; exact ⟨a3, b3⟩
  | 4, hq => cases hq; exact ⟨a4, b4⟩
  | k + 5, hq => simp [gT] at hq
/-- what the start gives -/
abbrev gvL : List Cond := flatC (Jvm.Cond.and given_1 narrow_1)
def sStr (i : Nat) : Term := .string (jsO i) (jsI i)
def sVal (i : Nat) : Term := .field (sStr i) "java/lang/String" "value" "[B"
def sDig (n : String) : Term := .static "java/lang/Integer" n "[B"
def sNeed : List Cond := ((List.range 33).map (fun i => Cond.exactly (sStr i) "java/lang/String")) ++ ((List.range 9).flatMap (fun i => [Cond.eq (.field (sStr (24 + i)) "java/lang/String" "coder" "B") (.int 0), Cond.arrayOf (sVal (24 + i)) .byte, Cond.eq (.length (sVal (24 + i))) (.int (Int32.ofNat (jsB (24 + i)).length))] ++ ((List.range (jsB (24 + i)).length).map (fun j => Cond.eq (.elem (sVal (24 + i)) (.int (Int32.ofNat j))) (.int ((jsB (24 + i)).getD j 0))))))
def sNeed2 : List Cond := (["DigitOnes", "DigitTens"].flatMap (fun n => [Cond.arrayOf (sDig n) .byte, Cond.eq (.length (sDig n)) (.int (Int32.ofNat 100))])) ++ ((List.range 100).map (fun j => Cond.eq (.elem (sDig "DigitOnes") (.int (Int32.ofNat j))) (.int (nI (48 + j % 10))))) ++ ((List.range 100).map (fun j => Cond.eq (.elem (sDig "DigitTens") (.int (Int32.ofNat j))) (.int (nI (48 + j / 10)))))
def sNeed3 : List Cond := [Cond.isRef (.static Bundle.tN "UNASSIGNED_STACK" Bundle.steD), Cond.isRef (.static Bundle.tN "SUPPRESSED_SENTINEL" Bundle.listD), Cond.eq (.static "java/lang/String" "COMPACT_STRINGS" "Z") (.int 1), Cond.isRef (.static "jdk/internal/util/Preconditions" "SIOOBE_FORMATTER" "Ljava/util/function/BiFunction;")] ++ ((List.range 6).flatMap (fun i => ((List.range 6).filter (fun j => i != j)).map (fun j => Cond.not (.castable (gX i) (gX j)))))
def gvK (k : Nat) : List Cond := if k = 1 then flatC narrow_1_1 else if k = 2 then flatC narrow_1_2 else flatC narrow_1_3
set_option maxHeartbeats 4000000 in
set_option maxRecDepth 100000 in
theorem sNeed_ok : ([(1, 351), (1, 370), (2, 4), (2, 27), (2, 43), (2, 67), (2, 87), (2, 105), (2, 130), (2, 149), (2, 185), (2, 220), (2, 239), (2, 275), (2, 292), (2, 310), (2, 329), (2, 347), (2, 369), (3, 1), (3, 32), (3, 118), (3, 254), (3, 284), (3, 60), (3, 68), (3, 77), (3, 88), (3, 95), (3, 103), (3, 110), (3, 305), (3, 358), (3, 61), (3, 62), (3, 63), (3, 64), (3, 65), (3, 66), (3, 67), (3, 69), (3, 70), (3, 71), (3, 72), (3, 73), (3, 74), (3, 75), (3, 76), (3, 78), (3, 79), (3, 80), (3, 81), (3, 82), (3, 83), (3, 84), (3, 85), (3, 86), (3, 87), (3, 89), (3, 90), (3, 91), (3, 92), (3, 93), (3, 94), (3, 96), (3, 97), (3, 98), (3, 99), (3, 100), (3, 101), (3, 102), (3, 104), (3, 105), (3, 106), (3, 107), (3, 108), (3, 109), (3, 111), (3, 112), (3, 113), (3, 114), (3, 115), (3, 116), (3, 117), (3, 306), (3, 307), (3, 308), (3, 309), (3, 310), (3, 311), (3, 312), (3, 313), (3, 314), (3, 315), (3, 316), (3, 317), (3, 318), (3, 319), (3, 320), (3, 321), (3, 322), (3, 323), (3, 324), (3, 325), (3, 326), (3, 327), (3, 328), (3, 329), (3, 330), (3, 331), (3, 332), (3, 333), (3, 334), (3, 335), (3, 336), (3, 337), (3, 338), (3, 339), (3, 340), (3, 341), (3, 342), (3, 343), (3, 344), (3, 345), (3, 346), (3, 347), (3, 348), (3, 349), (3, 350), (3, 351), (3, 352), (3, 353), (3, 354), (3, 355), (3, 356), (3, 357), (3, 359), (3, 360), (3, 361)] : List (Nat × Nat)).map (fun q => (gvK q.1)[q.2]?) = sNeed.map some := by decide +kernel
set_option maxHeartbeats 4000000 in
set_option maxRecDepth 100000 in
theorem sNeed2_ok : ([(1, 10), (1, 11), (1, 113), (1, 114), (1, 12), (1, 13), (1, 14), (1, 15), (1, 16), (1, 17), (1, 18), (1, 19), (1, 20), (1, 21), (1, 22), (1, 23), (1, 24), (1, 25), (1, 26), (1, 27), (1, 28), (1, 29), (1, 30), (1, 31), (1, 32), (1, 33), (1, 34), (1, 35), (1, 36), (1, 37), (1, 38), (1, 39), (1, 40), (1, 41), (1, 42), (1, 43), (1, 44), (1, 45), (1, 46), (1, 47), (1, 48), (1, 49), (1, 50), (1, 51), (1, 52), (1, 53), (1, 54), (1, 55), (1, 56), (1, 57), (1, 58), (1, 59), (1, 60), (1, 61), (1, 62), (1, 63), (1, 64), (1, 65), (1, 66), (1, 67), (1, 68), (1, 69), (1, 70), (1, 71), (1, 72), (1, 73), (1, 74), (1, 75), (1, 76), (1, 77), (1, 78), (1, 79), (1, 80), (1, 81), (1, 82), (1, 83), (1, 84), (1, 85), (1, 86), (1, 87), (1, 88), (1, 89), (1, 90), (1, 91), (1, 92), (1, 93), (1, 94), (1, 95), (1, 96), (1, 97), (1, 98), (1, 99), (1, 100), (1, 101), (1, 102), (1, 103), (1, 104), (1, 105), (1, 106), (1, 107), (1, 108), (1, 109), (1, 110), (1, 111), (1, 115), (1, 116), (1, 117), (1, 118), (1, 119), (1, 120), (1, 121), (1, 122), (1, 123), (1, 124), (1, 125), (1, 126), (1, 127), (1, 128), (1, 129), (1, 130), (1, 131), (1, 132), (1, 133), (1, 134), (1, 135), (1, 136), (1, 137), (1, 138), (1, 139), (1, 140), (1, 141), (1, 142), (1, 143), (1, 144), (1, 145), (1, 146), (1, 147), (1, 148), (1, 149), (1, 150), (1, 151), (1, 152), (1, 153), (1, 154), (1, 155), (1, 156), (1, 157), (1, 158), (1, 159), (1, 160), (1, 161), (1, 162), (1, 163), (1, 164), (1, 165), (1, 166), (1, 167), (1, 168), (1, 169), (1, 170), (1, 171), (1, 172), (1, 173), (1, 174), (1, 175), (1, 176), (1, 177), (1, 178), (1, 179), (1, 180), (1, 181), (1, 182), (1, 183), (1, 184), (1, 185), (1, 186), (1, 187), (1, 188), (1, 189), (1, 190), (1, 191), (1, 192), (1, 193), (1, 194), (1, 195), (1, 196), (1, 197), (1, 198), (1, 199), (1, 200), (1, 201), (1, 202), (1, 203), (1, 204), (1, 205), (1, 206), (1, 207), (1, 208), (1, 209), (1, 210), (1, 211), (1, 212), (1, 213), (1, 214)] : List (Nat × Nat)).map (fun q => (gvK q.1)[q.2]?) = sNeed2.map some := by decide +kernel
set_option maxHeartbeats 4000000 in
set_option maxRecDepth 100000 in
theorem sNeed3_ok : ([(1, 3), (1, 4), (1, 2), (1, 5), (1, 256), (1, 241), (1, 273), (1, 290), (1, 307), (1, 226), (1, 242), (1, 276), (1, 293), (1, 310), (1, 225), (1, 258), (1, 275), (1, 292), (1, 309), (1, 227), (1, 259), (1, 243), (1, 294), (1, 311), (1, 228), (1, 260), (1, 244), (1, 277), (1, 312), (1, 229), (1, 261), (1, 245), (1, 278), (1, 295)] : List (Nat × Nat)).map (fun q => (gvK q.1)[q.2]?) = sNeed3.map some := by decide +kernel
theorem sIx_in {I : List (Nat × Nat)} {L : List Cond} (h : I.map (fun q => (gvK q.1)[q.2]?) = L.map some) {w : Cond} (hw : w ∈ L) : ∃ k, w ∈ gvK k := by
  have h2 : some w ∈ L.map some := List.mem_map_of_mem hw
  rw [← h] at h2
  obtain ⟨q, -, hq⟩ := List.mem_map.mp h2
  exact ⟨q.1, List.mem_of_getElem? hq⟩
theorem gvK_in {w : Cond} {k : Nat} (h : w ∈ gvK k) : w ∈ gvL := by
  show w ∈ flatC given_1 ++ ((flatC narrow_1_1 ++ flatC narrow_1_2) ++ (flatC narrow_1_3 ++ flatC narrow_1_4))
  unfold gvK at h
  split at h
  · exact List.mem_append_right _ (List.mem_append_left _ (List.mem_append_left _ h))
  · split at h
    · exact List.mem_append_right _ (List.mem_append_left _ (List.mem_append_right _ h))
    · exact List.mem_append_right _ (List.mem_append_right _ (List.mem_append_left _ h))
theorem sRef : ∀ i, i < 33 → Cond.stringRef (jsO i) (jsI i) (jsT i) ∈ lw_tbl := fun i hi => by
  match i, hi with
  | 0, _ => exact tT3 (i := 47) rfl
  | 1, _ => exact tT3 (i := 89) rfl
  | 2, _ => exact tT4 (i := 41) rfl
  | 3, _ => exact tT4 (i := 83) rfl
  | 4, _ => exact tT4 (i := 87) rfl
  | 5, _ => exact tT4 (i := 114) rfl
  | 6, _ => exact tT4 (i := 132) rfl
  | 7, _ => exact tT4 (i := 146) rfl
  | 8, _ => exact tT4 (i := 160) rfl
  | 9, _ => exact tT4 (i := 180) rfl
  | 10, _ => exact tT4 (i := 217) rfl
  | 11, _ => exact tT4 (i := 226) rfl
  | 12, _ => exact tT4 (i := 236) rfl
  | 13, _ => exact tT5 (i := 5) rfl
  | 14, _ => exact tT5 (i := 6) rfl
  | 15, _ => exact tT5 (i := 27) rfl
  | 16, _ => exact tT5 (i := 28) rfl
  | 17, _ => exact tT5 (i := 58) rfl
  | 18, _ => exact tT5 (i := 72) rfl
  | 19, _ => exact tT5 (i := 115) rfl
  | 20, _ => exact tT5 (i := 128) rfl
  | 21, _ => exact tT5 (i := 226) rfl
  | 22, _ => exact tT7 (i := 13) rfl
  | 23, _ => exact tT7 (i := 31) rfl
  | 24, _ => exact tT5 (i := 156) rfl
  | 25, _ => exact tT5 (i := 208) rfl
  | 26, _ => exact tT5 (i := 209) rfl
  | 27, _ => exact tT5 (i := 210) rfl
  | 28, _ => exact tT5 (i := 211) rfl
  | 29, _ => exact tT5 (i := 212) rfl
  | 30, _ => exact tT5 (i := 213) rfl
  | 31, _ => exact tT8 (i := 156) rfl
  | 32, _ => exact tT8 (i := 194) rfl
  | i + 33, hi => exact absurd hi (by omega)
theorem sGx : ∀ w ∈ gXW, w ∈ lw_tbl := fun w hw => by
  rcases List.mem_append.mp hw with h | h
  · obtain ⟨i, hi, rfl⟩ := List.mem_map.mp h
    have hi := List.mem_range.mp hi
    match i, hi with
    | 0, _ => exact tT3 (i := 3) rfl
    | 1, _ => exact tT4 (i := 107) rfl
    | 2, _ => exact tT4 (i := 76) rfl
    | 3, _ => exact tT4 (i := 153) rfl
    | 4, _ => exact tT5 (i := 51) rfl
    | 5, _ => exact tT5 (i := 104) rfl
    | i + 6, hi => exact absurd hi (by omega)
  · simp only [List.mem_cons, List.not_mem_nil, or_false] at h
    rcases h with rfl | rfl | rfl
    · exact tT3 (i := 5) rfl
    · exact tT3 (i := 7) rfl
    · exact tT3 (i := 9) rfl
theorem jsB_len : ∀ i, i < 9 → (jsB (24 + i)).length < 1000 := by decide +kernel
theorem sGv (hgv : (Jvm.Cond.and given_1 narrow_1).before args s = true) : (∀ w ∈ sNeed, w.before args s = true) ∧ (∀ w ∈ sNeed2, w.before args s = true) ∧ ∀ w ∈ sNeed3, w.before args s = true :=
  ⟨fun w h => by obtain ⟨k, hk⟩ := sIx_in sNeed_ok h; exact flat_of_before _ hgv w (gvK_in hk), fun w h => by obtain ⟨k, hk⟩ := sIx_in sNeed2_ok h; exact flat_of_before _ hgv w (gvK_in hk), fun w h => by obtain ⟨k, hk⟩ := sIx_in sNeed3_ok h; exact flat_of_before _ hgv w (gvK_in hk)⟩
theorem sStrings (hts : ∀ w ∈ lw_tbl, w.before args s = true) (h1 : ∀ w ∈ sNeed, w.before args s = true) {A : Nat → Prop} (hA : ∀ a : Nat, a < s.heap.size → ¬ A a) : ∀ i : Nat, ∃ q : Nat × Nat, i < 33 → vk_R (jsO i) (jsI i) (jsT i) q.1 s ∧ (24 ≤ i → va_O "java/lang/String" q.1 A s s.heap ∧ va_OF "java/lang/String" "coder" "B" (.int 0) q.1 A s s.heap ∧ va_OF "java/lang/String" "value" "[B" (.ref q.2) q.1 A s s.heap ∧ va_T .byte q.2 (jsB i).length (fun j => .int ((jsB i).getD j 0)) A s s.heap) := fun i => by
  by_cases hi : i < 33
  · have hex : (Cond.exactly (sStr i) "java/lang/String").before args s = true := h1 _ (List.mem_append_left _ (List.mem_map.mpr ⟨i, List.mem_range.mpr hi, rfl⟩))
    obtain ⟨a, c, cA, kA, q1, q2, q3, q4, q5, q6, -⟩ := Cond.exactly_spec (args := args) (first := s) (o := none) (s := s) (idx := []) (t := sStr i) (cls := "java/lang/String") hex
    have hR : vk_R (jsO i) (jsI i) (jsT i) a s := vk_R.of (hts _ (sRef i hi)) q1
    by_cases h24 : 24 ≤ i
    · obtain ⟨k, hk9, rfl⟩ : ∃ k, k < 9 ∧ i = 24 + k := ⟨i - 24, by omega, by omega⟩
      have hm : ∀ w, w ∈ [Cond.eq (.field (sStr (24 + k)) "java/lang/String" "coder" "B") (.int 0), Cond.arrayOf (sVal (24 + k)) .byte, Cond.eq (.length (sVal (24 + k))) (.int (Int32.ofNat (jsB (24 + k)).length))] ++ ((List.range (jsB (24 + k)).length).map (fun j => Cond.eq (.elem (sVal (24 + k)) (.int (Int32.ofNat j))) (.int ((jsB (24 + k)).getD j 0)))) → w.before args s = true := fun w hw => h1 w (List.mem_append_right _ (List.mem_flatMap.mpr ⟨k, List.mem_range.mpr hk9, hw⟩))
      have hco := hm _ (List.mem_append_left _ List.mem_cons_self)
      have har := hm _ (List.mem_append_left _ (List.mem_cons_of_mem _ List.mem_cons_self))
      have hle := hm _ (List.mem_append_left _ (List.mem_cons_of_mem _ (List.mem_cons_of_mem _ List.mem_cons_self)))
      have hel : ∀ j, j < (jsB (24 + k)).length → (Cond.eq (.elem (sVal (24 + k)) (.int (Int32.ofNat j))) (.int ((jsB (24 + k)).getD j 0))).before args s = true := fun j hj => hm _ (List.mem_append_right _ (List.mem_map.mpr ⟨j, List.mem_range.mpr hj, rfl⟩))
      have hlen := jsB_len k hk9
      obtain ⟨t, ht, hT⟩ := va_Tof (f := fun j => .int ((jsB (24 + k)).getD j 0)) (A := A) (by omega) har (va_eqt hle) (fun j hj => va_eqt (hel j hj)) hA
      exact ⟨(a, t), fun _ => ⟨hR, fun _ => ⟨⟨cA, q3, q5, by rw [q6]; exact q2, hA a (Array.getElem?_eq_some_iff.mp q3).1⟩, vk_OFof q1 (va_eqt hco) hA, vk_OFof q1 ht hA, hT⟩⟩⟩
    · exact ⟨(a, 0), fun _ => ⟨hR, fun h => absurd h h24⟩⟩
  · exact ⟨(0, 0), fun h => absurd h hi⟩
theorem sDigits {n : String} {f : Nat → Nat} (hl : (Cond.laysStatic "java/lang/Integer" n "[B").before args s = true) (hini : (Cond.initialized "java/lang/Integer").before args s = true) (h2 : (Cond.arrayOf (sDig n) .byte).before args s = true) (h3 : (Cond.eq (.length (sDig n)) (.int (Int32.ofNat 100))).before args s = true) (h4 : ∀ j, j < 100 → (Cond.eq (.elem (sDig n) (.int (Int32.ofNat j))) (.int (nI (f j)))).before args s = true) {A : Nat → Prop} (hA : ∀ a : Nat, a < s.heap.size → ¬ A a) : ∃ t, va_Z "java/lang/Integer" n "[B" (.ref t) A s s.heap ∧ va_T .byte t 100 (fun j => .int (nI (f j))) A s s.heap := by
  obtain ⟨t, ht, hT⟩ := va_Tof (f := fun j => .int (nI (f j))) (A := A) (by omega) h2 (va_eqt h3) (fun j hj => va_eqt (h4 j hj)) hA
  exact ⟨t, va_Zref hl hini ht hA, hT⟩
theorem sEV (hts : ∀ w ∈ lw_tbl, w.before args s = true) (hgv : (Jvm.Cond.and given_1 narrow_1).before args s = true) : ∃ (D : va_G) (tc : Nat → ClassId) (sa : Nat → Nat), gEV D tc sa (fun q => s.heap.size ≤ q) s s.heap := by
  obtain ⟨D, tc, hK⟩ := sK hts
  have hA : ∀ a : Nat, a < s.heap.size → ¬ (fun q => s.heap.size ≤ q) a := fun a h => Nat.not_le.mpr h
  obtain ⟨g1, g2, g3⟩ := sGv hgv
  obtain ⟨f, hf⟩ := Classical.axiomOfChoice (sStrings hts g1 hA)
  have hD : ∀ w, w ∈ (["DigitOnes", "DigitTens"].flatMap (fun n => [Cond.arrayOf (sDig n) .byte, Cond.eq (.length (sDig n)) (.int (Int32.ofNat 100))])) → w.before args s = true := fun w hw => g2 w (List.mem_append_left _ (List.mem_append_left _ hw))
  obtain ⟨t1, z1, z2⟩ := sDigits (n := "DigitOnes") (f := fun j => 48 + j % 10) (hts _ (tT6 (i := 122) rfl)) (hts _ (tT1 (i := 18) rfl)) (hD _ (List.mem_cons_self)) (hD _ (List.mem_cons_of_mem _ List.mem_cons_self)) (fun j hj => g2 _ (List.mem_append_left _ (List.mem_append_right _ (List.mem_map.mpr ⟨j, List.mem_range.mpr hj, rfl⟩)))) hA
  obtain ⟨t2, y1, y2⟩ := sDigits (n := "DigitTens") (f := fun j => 48 + j / 10) (hts _ (tT6 (i := 124) rfl)) (hts _ (tT1 (i := 18) rfl)) (hD _ (List.mem_cons_of_mem _ (List.mem_cons_of_mem _ List.mem_cons_self))) (hD _ (List.mem_cons_of_mem _ (List.mem_cons_of_mem _ (List.mem_cons_of_mem _ List.mem_cons_self)))) (fun j hj => g2 _ (List.mem_append_right _ (List.mem_map.mpr ⟨j, List.mem_range.mpr hj, rfl⟩))) hA
  obtain ⟨sa, s0, s1, s2, s3⟩ : ∃ sa : Nat → Nat, (∀ i, i < 33 → sa (3 * i) = (f i).1) ∧ (∀ i, i < 33 → sa (3 * i + 1) = (f i).2) ∧ sa 1000 = t1 ∧ sa 1001 = t2 := by
    refine ⟨fun k => if k = 1000 then t1 else if k = 1001 then t2 else if k % 3 = 0 then (f (k / 3)).1 else (f (k / 3)).2, fun i hi => ?_, fun i hi => ?_, if_pos rfl, (if_neg (by omega)).trans (if_pos rfl)⟩
    · show (if 3 * i = 1000 then t1 else if 3 * i = 1001 then t2 else if 3 * i % 3 = 0 then (f (3 * i / 3)).1 else (f (3 * i / 3)).2) = _
      rw [if_neg (by omega), if_neg (by omega), if_pos (by omega), show 3 * i / 3 = i by omega]
    · show (if 3 * i + 1 = 1000 then t1 else if 3 * i + 1 = 1001 then t2 else if (3 * i + 1) % 3 = 0 then (f ((3 * i + 1) / 3)).1 else (f ((3 * i + 1) / 3)).2) = _
      rw [if_neg (by omega), if_neg (by omega), if_neg (by omega), show (3 * i + 1) / 3 = i by omega]
  have hN : ∀ w, w ∈ ((List.range 6).flatMap (fun i => ((List.range 6).filter (fun j => i != j)).map (fun j => Cond.not (.castable (gX i) (gX j))))) → w.before args s = true := fun w hw => g3 w (List.mem_append_right _ hw)
  refine ⟨D, tc, sa, hK, va_Nw.of rfl (hts _ (tT3 (i := 102) rfl)), fun i hi => by rw [s0 i hi]; exact (hf i hi).1, fun i h24 hi => by rw [s0 i hi, s1 i hi]; exact (hf i hi).2 h24, vx_Zqof (hts _ (tT3 (i := 28) rfl)) (hts _ (tT1 (i := 13) rfl)) (g3 _ (List.mem_append_left _ List.mem_cons_self)) hA, vx_Zqof (hts _ (tT3 (i := 30) rfl)) (hts _ (tT1 (i := 13) rfl)) (g3 _ (List.mem_append_left _ (List.mem_cons_of_mem _ List.mem_cons_self))) hA, va_Zof (hts _ (tT2 (i := 131) rfl)) (hts _ (tT1 (i := 10) rfl)) (va_eqt (g3 _ (List.mem_append_left _ (List.mem_cons_of_mem _ (List.mem_cons_of_mem _ List.mem_cons_self))))) hA, va_Zqof (hts _ (tT5 (i := 185) rfl)) (hts _ (tT1 (i := 28) rfl)) (g3 _ (List.mem_append_left _ (List.mem_cons_of_mem _ (List.mem_cons_of_mem _ (List.mem_cons_of_mem _ List.mem_cons_self))))) hA, by rw [s2]; exact ⟨z1, z2⟩, by rw [s3]; exact ⟨y1, y2⟩, fun w hw => va_Nw.of (List.all_eq_true.mp gXW_on w hw) (hts _ (sGx w hw)), fun i j hi hj hne => va_Nc.of (hN _ (List.mem_flatMap.mpr ⟨i, List.mem_range.mpr hi, List.mem_map.mpr ⟨j, List.mem_filter.mpr ⟨List.mem_range.mpr hj, bne_iff_ne.mpr hne⟩, rfl⟩⟩)), va_AO.of (hts _ (tT1 (i := 47) rfl)), va_AO.of (hts _ (tT1 (i := 170) rfl))⟩
end Start
