/-! THE PLAIN TELLING: numbers alone. Both sides are tied to it. -/
def b2i (b : Bool) : Int32 := if b then 1 else 0
theorem b2i_0 (b : Bool) : b2i b = 0 ↔ b = false := by cases b <;> decide
theorem b2i_1 (b : Bool) : b2i b = 1 ↔ b = true := by cases b <;> decide
theorem b2i_z (b : Bool) : b2i b = 0 ∨ b2i b = 1 := by cases b <;> decide
theorem b2i_d {c : Prop} [Decidable c] : (if c then (1 : Int32) else 0) = b2i (decide c) := by
  unfold b2i
  by_cases h : c
  · rw [if_pos h, if_pos (by simpa using h)]
  · rw [if_neg h, if_neg (by simpa using h)]
/-- a well or none -/
def en : Option Nat → Int32
  | none => -1
  | some k => nI k
theorem nI_ne1 {k : Nat} (h : k < 2 ^ 31) : ¬ nI k = -1 := fun z => by
  have := congrArg Int32.toInt z
  rw [nI_toInt h, show (-1 : Int32).toInt = -1 from by decide] at this
  omega
theorem en_none {o : Option Nat} (h : ∀ k, o = some k → k < 2 ^ 31) : en o = -1 ↔ o = none := by
  cases o with
  | none => simp [en]
  | some k => simp only [en, reduceCtorEq, iff_false]; exact nI_ne1 (h k rfl)
theorem en_eq {a b : Option Nat} (ha : ∀ k, a = some k → k < 2 ^ 31) (hb : ∀ k, b = some k → k < 2 ^ 31) : en a = en b ↔ a = b := by
  cases a with
  | none => cases b with
    | none => simp
    | some k => simp only [en, reduceCtorEq, iff_false]; exact fun z => nI_ne1 (hb k rfl) z.symm
  | some j => cases b with
    | none => simp only [en, reduceCtorEq, iff_false]; exact nI_ne1 (ha j rfl)
    | some k => simp only [en, Option.some.injEq]; exact nI_eq (ha j rfl) (hb k rfl)
/-- some of p from i on, m of them -/
def anyF (p : Nat → Bool) (i : Nat) : Nat → Bool
  | 0 => false
  | m + 1 => p i || anyF p (i + 1) m
theorem anyF_iff (p : Nat → Bool) : ∀ (m i : Nat), anyF p i m = true ↔ ∃ j, i ≤ j ∧ j < i + m ∧ p j = true := by
  intro m
  induction m with
  | zero => intro i; simp [anyF]; intro j h1 h2; omega
  | succ m ih =>
    intro i
    simp only [anyF, Bool.or_eq_true, ih]
    constructor
    · rintro (h | ⟨j, h1, h2, h3⟩)
      · exact ⟨i, by omega, by omega, h⟩
      · exact ⟨j, by omega, by omega, h3⟩
    · rintro ⟨j, h1, h2, h3⟩
      by_cases e : j = i
      · subst e; exact Or.inl h3
      · exact Or.inr ⟨j, by omega, by omega, h3⟩
theorem sh_l : ∀ i, i < 32 → ((nI i &&& (31 : Int32)).toBitVec.smod 32).toNat = i := by decide
/-- a bit -/
theorem bit_nI {N i : Nat} (hN : N < 2 ^ 31) (hi : i < 32) : (nI N >>> (nI i &&& (31 : Int32))) &&& (1 : Int32) = b2i (N.testBit i) := by
  rw [pk_shrN hN _ i (sh_l i hi)]
  have h2 : N / 2 ^ i < 2 ^ 31 := Nat.lt_of_le_of_lt (Nat.div_le_self _ _) hN
  rw [pk_andN (by omega) 1 (by decide), Nat.testBit_eq_decide_div_mod_eq]
  unfold b2i
  rcases Nat.mod_two_eq_zero_or_one (N / 2 ^ i) with h | h <;> simp [h] <;> rfl
theorem f10_isIn {N i : Nat} (hN : N < 2 ^ 31) (hi : i < 32) : F10_isIn (nI N) (nI i) = some (b2i (N.testBit i)) := by
  unfold F10_isIn
  rw [bit_nI hN hi]
  cases h : N.testBit i <;> simp [b2i]
/-- the events: their kinds, hours, wells -/
abbrev EV : Type := (Nat → Nat) × (Nat → Nat) × (Nat → Nat)
/-- a lid: event i covers well k in hour h -/
def isLd (E : EV) (h k i : Nat) : Bool := E.1 i == 1 && E.2.2 i == k && decide (E.2.1 i ≤ h) && decide (h ≤ E.2.1 i + 2)
def isCn (E : EV) (h k i : Nat) : Bool := E.1 i == 0 && E.2.1 i == h && E.2.2 i == k
def isDr (E : EV) (h i : Nat) : Bool := E.1 i == 2 && E.2.1 i == h
def covS (E : EV) (ne : Nat) (on : Nat → Bool) (h k : Nat) : Bool := anyF (fun i => on i && isLd E h k i) 0 ne
def coinS (E : EV) (ne : Nat) (on : Nat → Bool) (h k : Nat) : Bool := anyF (fun i => on i && isCn E h k i) 0 ne
def dryS (E : EV) (ne : Nat) (on : Nat → Bool) (h : Nat) : Bool := anyF (fun i => on i && isDr E h i) 0 ne
/-- down, up, the last -/
def dnS (ht : Nat → Nat) (k : Nat) : Nat → Option Nat
  | 0 => none
  | j + 1 => match dnS ht k j with
    | none => if ht j < ht k then some j else none
    | some b => if ht j < ht k ∧ ht b < ht j then some j else some b
def upS (ht : Nat → Nat) (k : Nat) : Nat → Option Nat
  | 0 => none
  | j + 1 => match upS ht k j with
    | none => if ht k < ht j then some j else none
    | some b => if ht k < ht j ∧ ht j < ht b then some j else some b
def laS (ht : Nat → Nat) : Nat → Option Nat
  | 0 => none
  | j + 1 => match laS ht j with
    | none => some j
    | some b => if ht j < ht b then some j else some b
theorem dnS_lt {ht : Nat → Nat} {k : Nat} : ∀ {n j : Nat}, dnS ht k n = some j → j < n ∧ ht j < ht k := by
  intro n
  induction n with
  | zero => intro j h; cases h
  | succ n ih =>
    intro j h
    unfold dnS at h
    split at h
    · split at h
      · cases h; exact ⟨by omega, by assumption⟩
      · cases h
    · rename_i b hb
      have := ih hb
      split at h
      · rename_i hc; cases h; exact ⟨by omega, hc.1⟩
      · cases h; exact ⟨by omega, this.2⟩
theorem upS_lt {ht : Nat → Nat} {k : Nat} : ∀ {n j : Nat}, upS ht k n = some j → j < n ∧ ht k < ht j := by
  intro n
  induction n with
  | zero => intro j h; cases h
  | succ n ih =>
    intro j h
    unfold upS at h
    split at h
    · split at h
      · cases h; exact ⟨by omega, by assumption⟩
      · cases h
    · rename_i b hb
      have := ih hb
      split at h
      · rename_i hc; cases h; exact ⟨by omega, hc.1⟩
      · cases h; exact ⟨by omega, this.2⟩
theorem laS_lt {ht : Nat → Nat} : ∀ {n j : Nat}, laS ht n = some j → j < n := by
  intro n
  induction n with
  | zero => intro j h; cases h
  | succ n ih =>
    intro j h
    unfold laS at h
    split at h
    · cases h; omega
    · rename_i b hb
      have := ih hb
      split at h
      · cases h; omega
      · cases h; omega
theorem laS_some {ht : Nat → Nat} {n : Nat} (h : 0 < n) : ∃ j, laS ht n = some j := by
  cases n with
  | zero => omega
  | succ n =>
    unfold laS
    split
    · exact ⟨_, rfl⟩
    · split <;> exact ⟨_, rfl⟩
