/-! How the methods' pure forms are written (gChk: a place that must be within; gLet: a value with a name; gJon: what several roads go on to; gBp, gBd: a call; fx1 ..: a loop by fuel), and the rows that take them apart. -/
abbrev inb (x : Int32) (n : Nat) : Prop := ¬ (x < 0 ∨ n ≤ x.toNatClampNeg)
def gChk {α : Type} (c : Prop) [Decidable c] (k : Option α) : Option α := if c then k else none
theorem gChk_s {α : Type} {c : Prop} [Decidable c] {k : Option α} {x : α} (h : gChk c k = some x) : c ∧ k = some x := by
  unfold gChk at h
  by_cases hc : c
  · rw [if_pos hc] at h; exact ⟨hc, h⟩
  · rw [if_neg hc] at h; cases h
def gLet {α β : Type} (e : α) (k : α → Option β) : Option β := k e
theorem gLet_s {α β : Type} {e : α} {k : α → Option β} {x : β} (h : gLet e k = some x) : ∃ y, y = e ∧ k y = some x := ⟨e, rfl, h⟩
def gJon {α β : Type} (e : α) (k : α → Option β) : Option β := k e
theorem gJon_s {α β : Type} {e : α} {k : α → Option β} {x : β} (h : gJon e k = some x) : ∃ y, y = e ∧ k y = some x := ⟨e, rfl, h⟩
def gBp {α β : Type} (o : Option α) (k : α → Option β) : Option β := match o with
  | none => none
  | some a => k a
theorem gBp_s {α β : Type} {o : Option α} {k : α → Option β} {x : β} (h : gBp o k = some x) : ∃ a, o = some a ∧ k a = some x := by
  cases o with
  | none => cases h
  | some a => exact ⟨a, rfl, h⟩
def gBd {α β γ : Type} (o : Option (α × γ)) (k : α → γ → Option β) : Option β := match o with
  | none => none
  | some a => k a.1 a.2
theorem gBd_s {α β γ : Type} {o : Option (α × γ)} {k : α → γ → Option β} {x : β} (h : gBd o k = some x) : ∃ a c, o = some (a, c) ∧ k a c = some x := by
  cases o with
  | none => cases h
  | some a => exact ⟨a.1, a.2, rfl, h⟩
def gFx1 {α1 β : Type} (F : (α1 → Option β) → α1 → Option β) : Nat → α1 → Option β
  | 0, _ => none
  | n + 1, a1 => F (gFx1 F n) a1
theorem gFx1_s {α1 β : Type} {F : (α1 → Option β) → α1 → Option β} {R : β} {P : α1 → Prop} (step : ∀ rec : α1 → Option β, (∀ a1, rec a1 = some R → P a1) → ∀ a1, F rec a1 = some R → P a1) : ∀ (n : Nat) (a1 : α1), gFx1 F n a1 = some R → P a1 := by
  intro n
  induction n with
  | zero => intro a1 h; cases h
  | succ n ih => intro a1 h; exact step _ ih a1 h
def gFx2 {α1 α2 β : Type} (F : (α1 → α2 → Option β) → α1 → α2 → Option β) : Nat → α1 → α2 → Option β
  | 0, _, _ => none
  | n + 1, a1, a2 => F (gFx2 F n) a1 a2
theorem gFx2_s {α1 α2 β : Type} {F : (α1 → α2 → Option β) → α1 → α2 → Option β} {R : β} {P : α1 → α2 → Prop} (step : ∀ rec : α1 → α2 → Option β, (∀ a1 a2, rec a1 a2 = some R → P a1 a2) → ∀ a1 a2, F rec a1 a2 = some R → P a1 a2) : ∀ (n : Nat) (a1 : α1) (a2 : α2), gFx2 F n a1 a2 = some R → P a1 a2 := by
  intro n
  induction n with
  | zero => intro a1 a2 h; cases h
  | succ n ih => intro a1 a2 h; exact step _ ih a1 a2 h
def gFx3 {α1 α2 α3 β : Type} (F : (α1 → α2 → α3 → Option β) → α1 → α2 → α3 → Option β) : Nat → α1 → α2 → α3 → Option β
  | 0, _, _, _ => none
  | n + 1, a1, a2, a3 => F (gFx3 F n) a1 a2 a3
theorem gFx3_s {α1 α2 α3 β : Type} {F : (α1 → α2 → α3 → Option β) → α1 → α2 → α3 → Option β} {R : β} {P : α1 → α2 → α3 → Prop} (step : ∀ rec : α1 → α2 → α3 → Option β, (∀ a1 a2 a3, rec a1 a2 a3 = some R → P a1 a2 a3) → ∀ a1 a2 a3, F rec a1 a2 a3 = some R → P a1 a2 a3) : ∀ (n : Nat) (a1 : α1) (a2 : α2) (a3 : α3), gFx3 F n a1 a2 a3 = some R → P a1 a2 a3 := by
  intro n
  induction n with
  | zero => intro a1 a2 a3 h; cases h
  | succ n ih => intro a1 a2 a3 h; exact step _ ih a1 a2 a3 h
def gFx4 {α1 α2 α3 α4 β : Type} (F : (α1 → α2 → α3 → α4 → Option β) → α1 → α2 → α3 → α4 → Option β) : Nat → α1 → α2 → α3 → α4 → Option β
  | 0, _, _, _, _ => none
  | n + 1, a1, a2, a3, a4 => F (gFx4 F n) a1 a2 a3 a4
theorem gFx4_s {α1 α2 α3 α4 β : Type} {F : (α1 → α2 → α3 → α4 → Option β) → α1 → α2 → α3 → α4 → Option β} {R : β} {P : α1 → α2 → α3 → α4 → Prop} (step : ∀ rec : α1 → α2 → α3 → α4 → Option β, (∀ a1 a2 a3 a4, rec a1 a2 a3 a4 = some R → P a1 a2 a3 a4) → ∀ a1 a2 a3 a4, F rec a1 a2 a3 a4 = some R → P a1 a2 a3 a4) : ∀ (n : Nat) (a1 : α1) (a2 : α2) (a3 : α3) (a4 : α4), gFx4 F n a1 a2 a3 a4 = some R → P a1 a2 a3 a4 := by
  intro n
  induction n with
  | zero => intro a1 a2 a3 a4 h; cases h
  | succ n ih => intro a1 a2 a3 a4 h; exact step _ ih a1 a2 a3 a4 h
def gFx5 {α1 α2 α3 α4 α5 β : Type} (F : (α1 → α2 → α3 → α4 → α5 → Option β) → α1 → α2 → α3 → α4 → α5 → Option β) : Nat → α1 → α2 → α3 → α4 → α5 → Option β
  | 0, _, _, _, _, _ => none
  | n + 1, a1, a2, a3, a4, a5 => F (gFx5 F n) a1 a2 a3 a4 a5
theorem gFx5_s {α1 α2 α3 α4 α5 β : Type} {F : (α1 → α2 → α3 → α4 → α5 → Option β) → α1 → α2 → α3 → α4 → α5 → Option β} {R : β} {P : α1 → α2 → α3 → α4 → α5 → Prop} (step : ∀ rec : α1 → α2 → α3 → α4 → α5 → Option β, (∀ a1 a2 a3 a4 a5, rec a1 a2 a3 a4 a5 = some R → P a1 a2 a3 a4 a5) → ∀ a1 a2 a3 a4 a5, F rec a1 a2 a3 a4 a5 = some R → P a1 a2 a3 a4 a5) : ∀ (n : Nat) (a1 : α1) (a2 : α2) (a3 : α3) (a4 : α4) (a5 : α5), gFx5 F n a1 a2 a3 a4 a5 = some R → P a1 a2 a3 a4 a5 := by
  intro n
  induction n with
  | zero => intro a1 a2 a3 a4 a5 h; cases h
  | succ n ih => intro a1 a2 a3 a4 a5 h; exact step _ ih a1 a2 a3 a4 a5 h
def gFx6 {α1 α2 α3 α4 α5 α6 β : Type} (F : (α1 → α2 → α3 → α4 → α5 → α6 → Option β) → α1 → α2 → α3 → α4 → α5 → α6 → Option β) : Nat → α1 → α2 → α3 → α4 → α5 → α6 → Option β
  | 0, _, _, _, _, _, _ => none
  | n + 1, a1, a2, a3, a4, a5, a6 => F (gFx6 F n) a1 a2 a3 a4 a5 a6
theorem gFx6_s {α1 α2 α3 α4 α5 α6 β : Type} {F : (α1 → α2 → α3 → α4 → α5 → α6 → Option β) → α1 → α2 → α3 → α4 → α5 → α6 → Option β} {R : β} {P : α1 → α2 → α3 → α4 → α5 → α6 → Prop} (step : ∀ rec : α1 → α2 → α3 → α4 → α5 → α6 → Option β, (∀ a1 a2 a3 a4 a5 a6, rec a1 a2 a3 a4 a5 a6 = some R → P a1 a2 a3 a4 a5 a6) → ∀ a1 a2 a3 a4 a5 a6, F rec a1 a2 a3 a4 a5 a6 = some R → P a1 a2 a3 a4 a5 a6) : ∀ (n : Nat) (a1 : α1) (a2 : α2) (a3 : α3) (a4 : α4) (a5 : α5) (a6 : α6), gFx6 F n a1 a2 a3 a4 a5 a6 = some R → P a1 a2 a3 a4 a5 a6 := by
  intro n
  induction n with
  | zero => intro a1 a2 a3 a4 a5 a6 h; cases h
  | succ n ih => intro a1 a2 a3 a4 a5 a6 h; exact step _ ih a1 a2 a3 a4 a5 a6 h
theorem i32_ne {x v : Int32} {k : Int} (h : ¬ x = v) (hv : v.toInt = k) : x.toInt ≠ k := fun q => h (Int32.toInt_inj.mp (q.trans hv.symm))
