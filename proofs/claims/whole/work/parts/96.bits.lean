/-! bits gathered; counted; the least -/
def bitsN (p : Nat → Bool) : Nat → Nat
  | 0 => 0
  | n + 1 => bitsN p n + (if p n then 2 ^ n else 0)
theorem bitsN_lt (p : Nat → Bool) (n : Nat) : bitsN p n < 2 ^ n := by
  induction n with
  | zero => exact (by decide : (0 : Nat) < 2 ^ 0)
  | succ n ih => unfold bitsN; rw [Nat.pow_succ]; split <;> omega
theorem bitsN_test (p : Nat → Bool) : ∀ (n j : Nat), j < n → (bitsN p n).testBit j = p j := by
  intro n
  induction n with
  | zero => intro j h; omega
  | succ n ih =>
    intro j h
    unfold bitsN
    have hl := bitsN_lt p n
    by_cases e : j = n
    · subst e
      cases hp : p j with
      | true => rw [if_pos rfl, Nat.add_comm, Nat.testBit_two_pow_add_eq, Nat.testBit_lt_two_pow hl]; rfl
      | false => rw [if_neg (by decide), Nat.add_zero, Nat.testBit_lt_two_pow hl]
    · cases hp : p n with
      | true => rw [if_pos rfl, Nat.add_comm, Nat.testBit_two_pow_add_gt (by omega), ih j (by omega)]
      | false => rw [if_neg (by decide), Nat.add_zero, ih j (by omega)]
theorem bitsN_congr {p q : Nat → Bool} {n : Nat} (h : ∀ j, j < n → p j = q j) : bitsN p n = bitsN q n := by
  induction n with
  | zero => rfl
  | succ n ih => unfold bitsN; rw [ih (fun j hj => h j (by omega)), h n (by omega)]
theorem bits_or {N n : Nat} (hN : N < 2 ^ n) (hn : n < 16) : nI N ||| ((1 : Int32) <<< (nI n &&& (31 : Int32))) = nI (N + 2 ^ n) := by
  have h2 : 2 ^ n ≤ 2 ^ 15 := Nat.pow_le_pow_right (by decide) (by omega)
  have h3 := pk_shlN (n := 1) (nI n &&& (31 : Int32)) n (sh_l n (by omega)) (by omega)
  rw [Nat.one_mul] at h3
  rw [show (1 : Int32) = nI 1 from rfl, h3, nI_or, Nat.add_comm, Nat.or_comm]
  congr 1
  apply Nat.eq_of_testBit_eq
  intro i
  rw [Nat.testBit_or, Nat.testBit_two_pow]
  by_cases e : n = i
  · subst e
    rw [Nat.testBit_two_pow_add_eq, Nat.testBit_lt_two_pow hN]; simp
  · rcases (show i < n ∨ n < i by omega) with h | h
    · rw [Nat.testBit_two_pow_add_gt h, decide_eq_false e]; rfl
    · have h4 : 2 ^ n + N < 2 ^ i := Nat.lt_of_lt_of_le (show 2 ^ n + N < 2 ^ (n + 1) by rw [Nat.pow_succ]; omega) (Nat.pow_le_pow_right (by decide) h)
      rw [Nat.testBit_lt_two_pow h4, Nat.testBit_lt_two_pow (show N < 2 ^ i by omega), decide_eq_false e]; rfl
theorem bits_step (p : Nat → Bool) {n : Nat} (hn : n < 16) (hp : p n = true) : nI (bitsN p n) ||| ((1 : Int32) <<< (nI n &&& (31 : Int32))) = nI (bitsN p (n + 1)) := by
  rw [bits_or (bitsN_lt p n) hn]
  show _ = nI (bitsN p n + (if p n then 2 ^ n else 0))
  rw [if_pos hp]
theorem bits_skip (p : Nat → Bool) {n : Nat} (hp : p n = false) : bitsN p n = bitsN p (n + 1) := by
  show _ = bitsN p n + _
  rw [hp]; rfl
theorem or_0 (x : Int32) : x ||| 0 = x := Int32.or_zero
theorem bits_or0 (p : Nat → Bool) {n : Nat} (hp : p n = false) : nI (bitsN p n) ||| (0 : Int32) = nI (bitsN p (n + 1)) := by
  rw [or_0, bits_skip p hp]
/-- how many below n -/
def cntN (p : Nat → Bool) : Nat → Nat
  | 0 => 0
  | n + 1 => cntN p n + b2n (p n)
theorem cntN_le (p : Nat → Bool) (n : Nat) : cntN p n ≤ n := by
  induction n with
  | zero => exact Nat.le_refl _
  | succ n ih => show cntN p n + b2n (p n) ≤ _; have := b2n_le (p n); omega
theorem cntN_congr {p q : Nat → Bool} {n : Nat} (h : ∀ j, j < n → p j = q j) : cntN p n = cntN q n := by
  induction n with
  | zero => rfl
  | succ n ih => show cntN p n + b2n (p n) = cntN q n + b2n (q n); rw [ih (fun j hj => h j (by omega)), h n (by omega)]
theorem tb_cnt : ∀ N, N < 256 → F6_bitCount_0f7a4 (nI N) = some (nI (cntN (fun i => N.testBit i) 8)) := by decide +kernel
theorem tb_ones : ∀ N, N < 256 → F10_ones (nI N) = some (nI (cntN (fun i => N.testBit i) 8)) := by
  intro N hN
  have h : ∀ N, N < 256 → F10_ones_h4 (nI N) 20 0 (nI N) = some (nI (cntN (fun i => N.testBit i) 8)) := by decide +kernel
  have mono : ∀ (n k : Nat) (v0 a x r : Int32), F10_ones_h4 v0 n a x = some r → F10_ones_h4 v0 (n + k) a x = some r := by
    intro n k v0
    induction n with
    | zero => intro a x r h; cases h
    | succ n ih =>
      intro a x r h
      rw [show n + 1 + k = (n + k) + 1 by omega]
      show F10_ones_p4 (F10_ones_h4 v0 (n + k)) v0 a x = some r
      have h : F10_ones_p4 (F10_ones_h4 v0 n) v0 a x = some r := h
      unfold F10_ones_p4 at h ⊢
      split
      · rename_i c; rw [if_pos c] at h; exact h
      · rename_i c; rw [if_neg c] at h; exact ih _ _ _ h
  have := mono 20 (FU - 20) _ _ _ _ (h N hN)
  rw [show 20 + (FU - 20) = FU by have := FU_lt (show 50 < 100000 by decide); omega] at this
  exact this
theorem cnt_bits (p : Nat → Bool) {n : Nat} (hn : n ≤ 8) : cntN (fun i => (bitsN p n).testBit i) 8 = cntN p n := by
  have h : ∀ m, n ≤ m → cntN (fun i => (bitsN p n).testBit i) m = cntN p n := by
    intro m
    induction m with
    | zero => intro h; have : n = 0 := by omega
              subst this; rfl
    | succ m ih =>
      intro h
      by_cases e : n = m + 1
      · subst e; exact cntN_congr (fun j hj => bitsN_test p _ j hj)
      · show cntN _ m + b2n _ = _
        rw [ih (by omega)]
        show _ + b2n ((bitsN p n).testBit m) = _
        rw [Nat.testBit_lt_two_pow (Nat.lt_of_lt_of_le (bitsN_lt p n) (Nat.pow_le_pow_right (by decide) (by omega)))]
        rfl
  exact h 8 hn
theorem bits_256 (p : Nat → Bool) {n : Nat} (hn : n ≤ 8) : bitsN p n < 256 := Nat.lt_of_lt_of_le (bitsN_lt p n) (Nat.pow_le_pow_right (n := 2) (by decide) hn)
theorem bits_count (p : Nat → Bool) {n : Nat} (hn : n ≤ 8) : F6_bitCount_0f7a4 (nI (bitsN p n)) = some (nI (cntN p n)) := by rw [tb_cnt _ (bits_256 p hn), cnt_bits p hn]
theorem bits_ones (p : Nat → Bool) {n : Nat} (hn : n ≤ 8) : F10_ones (nI (bitsN p n)) = some (nI (cntN p n)) := by rw [tb_ones _ (bits_256 p hn), cnt_bits p hn]
/-- the least of those that there are -/
def minF (f : Nat → Option Nat) : Nat → Option Nat
  | 0 => none
  | n + 1 => match f n with
    | none => minF f n
    | some h => match minF f n with
      | none => some h
      | some b => if h < b then some h else some b
theorem minF_s (f : Nat → Option Nat) (n : Nat) : minF f (n + 1) = match f n with | none => minF f n | some h => match minF f n with | none => some h | some b => if h < b then some h else some b := rfl
theorem minF_lt {f : Nat → Option Nat} {c : Nat} (hf : ∀ i j, f i = some j → j < c) : ∀ {n j : Nat}, minF f n = some j → j < c := by
  intro n
  induction n with
  | zero => intro j h; cases h
  | succ n ih =>
    intro j h
    rw [minF_s] at h
    cases h1 : f n with
    | none => rw [h1] at h; exact ih h
    | some a =>
      rw [h1] at h
      cases h2 : minF f n with
      | none => rw [h2] at h; cases h; exact hf _ _ h1
      | some b =>
        rw [h2] at h
        dsimp only at h
        split at h
        · cases h; exact hf _ _ h1
        · cases h; exact ih h2
theorem minF_congr {f g : Nat → Option Nat} {n : Nat} (h : ∀ i, i < n → f i = g i) : minF f n = minF g n := by
  induction n with
  | zero => rfl
  | succ n ih => rw [minF_s, minF_s, ih (fun i hi => h i (by omega)), h n (by omega)]
/-- which is the least, and where -/
def argF (f : Nat → Option Nat) : Nat → Option Nat
  | 0 => none
  | n + 1 => match f n with
    | none => argF f n
    | some h => match minF f n with
      | none => some n
      | some b => if h < b then some n else argF f n
theorem argF_s (f : Nat → Option Nat) (n : Nat) : argF f (n + 1) = match f n with | none => argF f n | some h => match minF f n with | none => some n | some b => if h < b then some n else argF f n := rfl
theorem argF_lt {f : Nat → Option Nat} : ∀ {n j : Nat}, argF f n = some j → j < n := by
  intro n
  induction n with
  | zero => intro j h; cases h
  | succ n ih =>
    intro j h
    rw [argF_s] at h
    cases h1 : f n with
    | none => rw [h1] at h; have := ih h; omega
    | some a =>
      rw [h1] at h
      cases h2 : minF f n with
      | none => rw [h2] at h; cases h; omega
      | some b =>
        rw [h2] at h
        dsimp only at h
        split at h
        · cases h; omega
        · have := ih h; omega
/-- the last hour counted down -/
def fsD (p : Nat → Bool) (n : Nat) : Nat → Option Nat
  | 0 => none
  | i + 1 => if p (n - 1 - i) then some (n - 1 - i) else fsD p n i
theorem fsD_p (p : Nat → Bool) (n : Nat) : ∀ i, i ≤ n → (∀ j, fsD p n i = some j → p j = true ∧ n - i ≤ j ∧ j < n ∧ ∀ m, n - i ≤ m → m < j → p m = false) ∧ (fsD p n i = none → ∀ m, n - i ≤ m → m < n → p m = false) := by
  intro i
  induction i with
  | zero => intro _; exact ⟨fun j h => (by cases h), fun _ m h1 h2 => by omega⟩
  | succ i ih =>
    intro hi
    obtain ⟨a, b⟩ := ih (by omega)
    unfold fsD
    cases hp : p (n - 1 - i) with
    | true =>
      rw [if_pos rfl]
      exact ⟨fun j h => by cases h; exact ⟨hp, by omega, by omega, fun m h1 h2 => by omega⟩, fun h => by cases h⟩
    | false =>
      rw [if_neg (by decide)]
      refine ⟨fun j h => ?_, fun h m h1 h2 => ?_⟩
      · obtain ⟨c1, c2, c3, c4⟩ := a j h
        refine ⟨c1, by omega, c3, fun m h1 h2 => ?_⟩
        by_cases e : m = n - 1 - i
        · subst e; exact hp
        · exact c4 m (by omega) h2
      · by_cases e : m = n - 1 - i
        · subst e; exact hp
        · exact b h m (by omega) h2
theorem fsD_eq (p : Nat → Bool) (n : Nat) : fsD p n n = fsB p n := by
  obtain ⟨a, b⟩ := fsD_p p n n (Nat.le_refl _)
  cases hd : fsD p n n with
  | none =>
    symm
    rw [fsB_none]
    have := b hd
    cases he : evB p n with
    | false => rfl
    | true =>
      obtain ⟨j, h1, h2⟩ := (evB_iff p n).mp he
      rw [this j (by omega) h1] at h2
      cases h2
  | some j =>
    obtain ⟨c1, c2, c3, c4⟩ := a j hd
    have h0 : fsB p j = none := by
      rw [fsB_none]
      cases he : evB p j with
      | false => rfl
      | true =>
        obtain ⟨i, h1, h2⟩ := (evB_iff p j).mp he
        rw [c4 i (by omega) h1] at h2
        cases h2
    have h1 : fsB p (j + 1) = some j := by unfold fsB; rw [h0]; dsimp only; rw [if_pos c1]
    rw [fsB_ge h1 (by omega)]
