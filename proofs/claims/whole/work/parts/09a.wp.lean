/-! What a pure form comes to: rows that take the forms apart from the front; ints by their numbers; sets of nodes as masks. -/
def gOk {α : Type} (o : Option α) (Q : α → Prop) : Prop := ∃ a, o = some a ∧ Q a
theorem gOk_some {α : Type} {a : α} {Q : α → Prop} (h : Q a) : gOk (some a) Q := ⟨a, rfl, h⟩
theorem gOk_imp {α : Type} {o : Option α} {P Q : α → Prop} (h : gOk o P) (k : ∀ a, P a → Q a) : gOk o Q := by
  obtain ⟨a, e, p⟩ := h
  exact ⟨a, e, k a p⟩
theorem gOk_bp {α β : Type} {o : Option α} {k : α → Option β} {P : α → Prop} {Q : β → Prop} (h : gOk o P) (hk : ∀ a, P a → gOk (k a) Q) : gOk (gBp o k) Q := by
  obtain ⟨a, e, p⟩ := h
  subst e
  exact hk a p
theorem gOk_be {α β : Type} {o : Option α} {k : α → Option β} {a : α} {Q : β → Prop} (h : o = some a) (hk : gOk (k a) Q) : gOk (gBp o k) Q := by
  subst h
  exact hk
theorem gOk_bd {α β γ : Type} {o : Option (α × γ)} {k : α → γ → Option β} {P : α × γ → Prop} {Q : β → Prop} (h : gOk o P) (hk : ∀ a c, P (a, c) → gOk (k a c) Q) : gOk (gBd o k) Q := by
  obtain ⟨⟨a, c⟩, e, p⟩ := h
  subst e
  exact hk a c p
theorem gOk_chk {α : Type} {c : Prop} [Decidable c] {o : Option α} {Q : α → Prop} (hc : c) (h : gOk o Q) : gOk (gChk c o) Q := by
  unfold gChk
  rw [if_pos hc]
  exact h
theorem gOk_let {α β : Type} {e : α} {k : α → Option β} {Q : β → Prop} (h : gOk (k e) Q) : gOk (gLet e k) Q := h
theorem gOk_lee {α β : Type} {e : α} {k : α → Option β} {Q : β → Prop} (h : ∀ y, y = e → gOk (k y) Q) : gOk (gLet e k) Q := h e rfl
theorem gOk_jon {α β : Type} {e : α} {k : α → Option β} {Q : β → Prop} (h : gOk (k e) Q) : gOk (gJon e k) Q := h
/-- what several roads go on to, with what they bring -/
theorem gOk_jp {α β γ : Type} {e : γ → Option α} {k : (γ → Option α) → Option β} {Q : β → Prop} (P : γ → Prop) (R : α → Prop) (he : ∀ c, P c → gOk (e c) R) (hk : ∀ j : γ → Option α, (∀ c, P c → gOk (j c) R) → gOk (k j) Q) : gOk (gJon e k) Q := hk e he
theorem gOk_if {α : Type} {c : Prop} [Decidable c] {A B : Option α} {Q : α → Prop} (h1 : c → gOk A Q) (h2 : ¬ c → gOk B Q) : gOk (if c then A else B) Q := by
  by_cases h : c
  · rw [if_pos h]; exact h1 h
  · rw [if_neg h]; exact h2 h
theorem gOk_lt {α : Type} {x y : Int32} {a b : Int} {A B : Option α} {Q : α → Prop} (hx : x.toInt = a) (hy : y.toInt = b) (h1 : a < b → gOk A Q) (h2 : b ≤ a → gOk B Q) : gOk (if x < y then A else B) Q := by
  refine gOk_if (fun h => h1 ?_) (fun h => h2 ?_)
  · rw [← hx, ← hy]; exact Int32.lt_iff_toInt_lt.mp h
  · rw [← hx, ← hy]; exact Int.not_lt.mp (fun q => h (Int32.lt_iff_toInt_lt.mpr q))
theorem gOk_le {α : Type} {x y : Int32} {a b : Int} {A B : Option α} {Q : α → Prop} (hx : x.toInt = a) (hy : y.toInt = b) (h1 : a ≤ b → gOk A Q) (h2 : b < a → gOk B Q) : gOk (if x ≤ y then A else B) Q := by
  refine gOk_if (fun h => h1 ?_) (fun h => h2 ?_)
  · rw [← hx, ← hy]; exact Int32.le_iff_toInt_le.mp h
  · rw [← hx, ← hy]; exact Int.not_le.mp (fun q => h (Int32.le_iff_toInt_le.mpr q))
theorem gOk_eq {α : Type} {x y : Int32} {a b : Int} {A B : Option α} {Q : α → Prop} (hx : x.toInt = a) (hy : y.toInt = b) (h1 : a = b → gOk A Q) (h2 : a ≠ b → gOk B Q) : gOk (if x = y then A else B) Q := by
  refine gOk_if (fun h => h1 ?_) (fun h => h2 ?_)
  · rw [← hx, ← hy, h]
  · rw [← hx, ← hy]; exact fun q => h (Int32.toInt_inj.mp q)
theorem gOk_fx1 {α1 β : Type} {F : (α1 → Option β) → α1 → Option β} {Q : β → Prop} (P : Nat → α1 → Prop) (step : ∀ (rec : α1 → Option β) (n : Nat) (a1 : α1), P n a1 → (∀ b1 m, m < n → P m b1 → gOk (rec b1) Q) → gOk (F rec a1) Q) : ∀ (fuel n : Nat) (a1 : α1), n < fuel → P n a1 → gOk (gFx1 F fuel a1) Q := by
  intro fuel
  induction fuel with
  | zero => intro n a1 h; exact absurd h (Nat.not_lt_zero n)
  | succ f ih => intro n a1 hn hp; exact step (gFx1 F f) n a1 hp (fun b1 m hm hp' => ih m b1 (by omega) hp')
theorem gOk_fx2 {α1 α2 β : Type} {F : (α1 → α2 → Option β) → α1 → α2 → Option β} {Q : β → Prop} (P : Nat → α1 → α2 → Prop) (step : ∀ (rec : α1 → α2 → Option β) (n : Nat) (a1 : α1) (a2 : α2), P n a1 a2 → (∀ b1 b2 m, m < n → P m b1 b2 → gOk (rec b1 b2) Q) → gOk (F rec a1 a2) Q) : ∀ (fuel n : Nat) (a1 : α1) (a2 : α2), n < fuel → P n a1 a2 → gOk (gFx2 F fuel a1 a2) Q := by
  intro fuel
  induction fuel with
  | zero => intro n a1 a2 h; exact absurd h (Nat.not_lt_zero n)
  | succ f ih => intro n a1 a2 hn hp; exact step (gFx2 F f) n a1 a2 hp (fun b1 b2 m hm hp' => ih m b1 b2 (by omega) hp')
theorem gOk_fx3 {α1 α2 α3 β : Type} {F : (α1 → α2 → α3 → Option β) → α1 → α2 → α3 → Option β} {Q : β → Prop} (P : Nat → α1 → α2 → α3 → Prop) (step : ∀ (rec : α1 → α2 → α3 → Option β) (n : Nat) (a1 : α1) (a2 : α2) (a3 : α3), P n a1 a2 a3 → (∀ b1 b2 b3 m, m < n → P m b1 b2 b3 → gOk (rec b1 b2 b3) Q) → gOk (F rec a1 a2 a3) Q) : ∀ (fuel n : Nat) (a1 : α1) (a2 : α2) (a3 : α3), n < fuel → P n a1 a2 a3 → gOk (gFx3 F fuel a1 a2 a3) Q := by
  intro fuel
  induction fuel with
  | zero => intro n a1 a2 a3 h; exact absurd h (Nat.not_lt_zero n)
  | succ f ih => intro n a1 a2 a3 hn hp; exact step (gFx3 F f) n a1 a2 a3 hp (fun b1 b2 b3 m hm hp' => ih m b1 b2 b3 (by omega) hp')
/-! ints by their numbers -/
section SqInt
variable {x y : Int32} {a b : Int} {k n : Nat}
theorem ti_eq (hx : x.toInt = a) (hy : y.toInt = a) : x = y := Int32.toInt_inj.mp (hx.trans hy.symm)
theorem ti_bmod {z : Int} (h1 : -2147483648 ≤ z) (h2 : z < 2147483648) : z.bmod Int32.size = z := by
  apply Int.bmod_eq_of_le
  · show -((Int32.size : Int) / 2) ≤ z
    have : (Int32.size : Int) / 2 = 2147483648 := rfl
    omega
  · show z < ((Int32.size : Int) + 1) / 2
    have : ((Int32.size : Int) + 1) / 2 = 2147483648 := rfl
    omega
theorem ti_add (hx : x.toInt = a) (hy : y.toInt = b) (h1 : -2147483648 ≤ a + b := by omega) (h2 : a + b < 2147483648 := by omega) : (x + y).toInt = a + b := by
  rw [Int32.toInt_add, hx, hy]
  exact ti_bmod h1 h2
theorem ti_sub (hx : x.toInt = a) (hy : y.toInt = b) (h1 : -2147483648 ≤ a - b := by omega) (h2 : a - b < 2147483648 := by omega) : (x - y).toInt = a - b := by
  rw [Int32.toInt_sub, hx, hy]
  exact ti_bmod h1 h2
theorem ti_mul (hx : x.toInt = a) (hy : y.toInt = b) (h1 : -2147483648 ≤ a * b) (h2 : a * b < 2147483648) : (x * y).toInt = a * b := by
  rw [Int32.toInt_mul, hx, hy]
  exact ti_bmod h1 h2
theorem ti_nat (h : n < 2147483648) : (Int32.ofNat n).toInt = (n : Int) := Int32.toInt_ofNat_of_lt h
theorem ti_int {z : Int} (h1 : -2147483648 ≤ z) (h2 : z < 2147483648) : (Int32.ofInt z).toInt = z := Int32.toInt_ofInt_of_le h1 h2
theorem ti_cl (hx : x.toInt = (k : Int)) : x.toNatClampNeg = k := by
  show x.toInt.toNat = k
  rw [hx]; rfl
theorem ti_inb (hx : x.toInt = (k : Int)) (h : k < n) : inb x n := by
  intro q
  rcases q with q | q
  · have := Int32.lt_iff_toInt_lt.mp q
    rw [hx] at this
    have e : (0 : Int32).toInt = 0 := rfl
    omega
  · rw [ti_cl hx] at q
    omega
theorem ti_of (hx : x.toInt = (k : Int)) : x = Int32.ofNat k := by
  have h := x.toInt_lt
  rw [hx] at h
  exact Int32.toInt_inj.mp (hx.trans (ti_nat (by omega)).symm)
theorem ti_lo (x : Int32) : -2147483648 ≤ x.toInt := x.minValue_le_toInt
theorem ti_hi (x : Int32) : x.toInt < 2147483648 := x.toInt_lt
end SqInt
/-! sets of nodes -/
def sqPc (m : Nat) : Nat := (List.range 5).countP (fun v => m.testBit v)
def sqMk (W : Nat → Bool) : Nat := (if W 0 then 1 else 0) + (if W 1 then 2 else 0) + (if W 2 then 4 else 0) + (if W 3 then 8 else 0) + (if W 4 then 16 else 0)
theorem sqMk_lt (W : Nat → Bool) : sqMk W < 32 := by
  unfold sqMk
  split <;> split <;> split <;> split <;> split <;> omega
theorem sqMk_bit (W : Nat → Bool) : ∀ v, v < 5 → (sqMk W).testBit v = W v := by
  intro v hv
  have h : v = 0 ∨ v = 1 ∨ v = 2 ∨ v = 3 ∨ v = 4 := by omega
  unfold sqMk
  rcases h with rfl | rfl | rfl | rfl | rfl <;> (cases W 0 <;> cases W 1 <;> cases W 2 <;> cases W 3 <;> cases W 4 <;> rfl)
theorem sqMk_ext {W V : Nat → Bool} (h : ∀ v, v < 5 → W v = V v) : sqMk W = sqMk V := by
  unfold sqMk
  rw [h 0 (by omega), h 1 (by omega), h 2 (by omega), h 3 (by omega), h 4 (by omega)]
theorem sqPc_and (g : Nat) (W : Nat → Bool) : sqPc (sqMk W &&& g) = (List.range 5).countP (fun v => g.testBit v && W v) := by
  unfold sqPc
  apply List.countP_congr
  intro v hv
  rw [Nat.testBit_and, sqMk_bit W v (List.mem_range.mp hv), Bool.and_comm]
theorem sqMb_pc (g : Nat) (W : Nat → Bool) : sqMb g W = decide (sqPc g < 2 * sqPc (sqMk W &&& g)) := by
  rw [sqPc_and]; rfl
theorem sqPc_le : ∀ m : Fin 32, sqPc m.val ≤ 5 := by decide +kernel
theorem i32_and : ∀ a b : Fin 32, Int32.ofNat a.val &&& Int32.ofNat b.val = Int32.ofNat (a.val &&& b.val) := by decide +kernel
theorem i32_or : ∀ a b : Fin 32, Int32.ofNat a.val ||| Int32.ofNat b.val = Int32.ofNat (a.val ||| b.val) := by decide +kernel
theorem i32_low : ∀ a : Fin 32, a.val ≠ 0 → Int32.ofNat a.val &&& (Int32.ofNat a.val - 1) = Int32.ofNat (a.val &&& (a.val - 1)) ∧ a.val &&& (a.val - 1) < a.val ∧ sqPc (a.val &&& (a.val - 1)) + 1 = sqPc a.val := by decide +kernel
theorem i32_bit : ∀ (a : Fin 32) (v : Fin 5), ((Int32.ofNat a.val >>> (Int32.ofNat v.val &&& 31)) &&& 1 = 1) ↔ a.val.testBit v.val = true := by decide +kernel
theorem i32_one : ∀ v : Fin 5, (1 : Int32) <<< (Int32.ofNat v.val &&& 31) = Int32.ofNat (2 ^ v.val) := by decide +kernel
theorem sqMk_or (W : Nat → Bool) : ∀ v, v < 5 → sqMk W ||| 2 ^ v = sqMk (fun u => W u || u == v) := by
  intro v hv
  have key : ∀ (b0 b1 b2 b3 b4 : Bool) (v : Fin 5), ((if b0 then 1 else 0) + (if b1 then 2 else 0) + (if b2 then 4 else 0) + (if b3 then 8 else 0) + (if b4 then 16 else 0)) ||| 2 ^ v.val = (if (b0 || (0 == v.val)) then 1 else 0) + (if (b1 || (1 == v.val)) then 2 else 0) + (if (b2 || (2 == v.val)) then 4 else 0) + (if (b3 || (3 == v.val)) then 8 else 0) + (if (b4 || (4 == v.val)) then 16 else 0) := by decide +kernel
  exact key (W 0) (W 1) (W 2) (W 3) (W 4) ⟨v, hv⟩
theorem sqMk_one : ∀ v, v < 5 → sqMk (fun u => u == v) = 2 ^ v := by
  intro v hv
  have h : v = 0 ∨ v = 1 ∨ v = 2 ∨ v = 3 ∨ v = 4 := by omega
  rcases h with rfl | rfl | rfl | rfl | rfl <;> rfl
theorem sqOr_bit (a b i : Nat) : (a ||| b).testBit i = (a.testBit i || b.testBit i) := Nat.testBit_or a b i
theorem sqOr_lt {a b : Nat} (ha : a < 32) (hb : b < 32) : a ||| b < 32 := Nat.or_lt_two_pow (n := 5) ha hb
theorem sqAnd_lt {a b : Nat} (hb : b < 32) : a &&& b < 32 := Nat.lt_of_le_of_lt Nat.and_le_right hb
/-- configurations in numbers -/
theorem i32_cfg : ∀ a : Fin 1024, (Int32.ofNat a.val >>> ((5 : Int32) &&& 31) = Int32.ofNat (a.val / 32)) ∧ (Int32.ofNat a.val &&& 31 = Int32.ofNat (a.val % 32)) ∧ Int32.ofNat a.val / 32 = Int32.ofNat (a.val / 32) ∧ Int32.ofNat a.val - Int32.ofNat a.val / 32 * 32 = Int32.ofNat (a.val % 32) := by decide +kernel
