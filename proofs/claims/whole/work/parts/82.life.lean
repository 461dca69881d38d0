/-! the life of one saying, told plainly -/
abbrev ST : Type := Option Nat × Nat × Nat × Nat × Nat
abbrev KW : Type := Nat × (Nat → Nat) × (Nat → Nat)
abbrev KH : Type := (Nat → Nat → Bool) × (Nat → Nat → Bool) × (Nat → Bool)
def dnW (W : KW) (k : Nat) : Option Nat := dnS W.2.2 k W.1
def upW (W : KW) (k : Nat) : Option Nat := upS W.2.2 k W.1
def laW (W : KW) : Option Nat := laS W.2.2 W.1
def goW (W : KW) (up : Bool) (k : Nat) : Option Nat := if up then upW W k else dnW W k
def skp (b : Nat → Option Nat) (cv : Nat → Bool) : Nat → Option Nat → Option Nat
  | 0, x => x
  | _ + 1, none => none
  | n + 1, some k => if cv k then skp b cv n (b k) else some k
theorem skp_none (b : Nat → Option Nat) (cv : Nat → Bool) (n : Nat) : skp b cv n none = none := by cases n <;> rfl
/-- the chain has an end: more turns change nothing -/
theorem skp_stable {b : Nat → Option Nat} {cv : Nat → Bool} (μ : Nat → Nat) (hμ : ∀ k j, b k = some j → μ j < μ k) : ∀ (n k m : Nat), μ k < n → μ k < m → skp b cv n (some k) = skp b cv m (some k) := by
  intro n
  induction n with
  | zero => intro k m h; omega
  | succ n ih =>
    intro k m h1 h2
    obtain ⟨m', rfl⟩ : ∃ m', m = m' + 1 := ⟨m - 1, by omega⟩
    unfold skp
    split
    · cases hb : b k with
      | none => rw [skp_none, skp_none]
      | some j =>
        have := hμ k j hb
        exact ih j m' (by omega) (by omega)
    · rfl
/-- the wells below a height, counted -/
def cntB (p : Nat → Bool) : Nat → Nat
  | 0 => 0
  | n + 1 => cntB p n + (if p n then 1 else 0)
theorem cntB_le (p : Nat → Bool) (n : Nat) : cntB p n ≤ n := by
  induction n with
  | zero => exact Nat.le_refl _
  | succ n ih => unfold cntB; split <;> omega
theorem cntB_mono {p q : Nat → Bool} (h : ∀ i, p i = true → q i = true) (n : Nat) : cntB p n ≤ cntB q n := by
  induction n with
  | zero => exact Nat.le_refl _
  | succ n ih =>
    unfold cntB
    by_cases hp : p n = true
    · rw [if_pos hp, if_pos (h n hp)]; omega
    · rw [if_neg hp]; split <;> omega
theorem cntB_lt {p q : Nat → Bool} (h : ∀ i, p i = true → q i = true) {j : Nat} (h1 : p j = false) (h2 : q j = true) : ∀ {n : Nat}, j < n → cntB p n < cntB q n := by
  intro n
  induction n with
  | zero => intro h; omega
  | succ n ih =>
    intro hj
    unfold cntB
    by_cases e : j = n
    · subst e
      have := cntB_mono h j
      rw [if_neg (by rw [h1]; decide), if_pos h2]
      omega
    · have := ih (by omega)
      by_cases hp : p n = true
      · rw [if_pos hp, if_pos (h n hp)]; omega
      · rw [if_neg hp]; split <;> omega
theorem cntB_self {p : Nat → Bool} {k n : Nat} (hk : k < n) (h : p k = false) : cntB p n < n := by
  have := cntB_lt (p := p) (q := fun _ => true) (fun _ _ => rfl) h rfl hk
  have := cntB_le (fun _ => true) n
  omega
def rkW (W : KW) (up : Bool) (k : Nat) : Nat := cntB (fun i => if up then decide (W.2.2 k < W.2.2 i) else decide (W.2.2 i < W.2.2 k)) W.1
theorem goW_lt {W : KW} {up : Bool} {k j : Nat} (h : goW W up k = some j) : j < W.1 := by
  unfold goW at h
  cases up with
  | false => exact (dnS_lt (show dnS W.2.2 k W.1 = some j from h)).1
  | true => exact (upS_lt (show upS W.2.2 k W.1 = some j from h)).1
theorem goW_rk {W : KW} {up : Bool} {k j : Nat} (h : goW W up k = some j) : rkW W up j < rkW W up k := by
  unfold goW at h
  cases up with
  | false =>
    have := dnS_lt (show dnS W.2.2 k W.1 = some j from h)
    exact cntB_lt (fun i hi => by simp at hi ⊢; omega) (by simp) (by simpa using this.2) this.1
  | true =>
    have := upS_lt (show upS W.2.2 k W.1 = some j from h)
    exact cntB_lt (fun i hi => by simp at hi ⊢; omega) (by simp) (by simpa using this.2) this.1
theorem rkW_lt {W : KW} {up : Bool} {k : Nat} (hk : k < W.1) : rkW W up k < W.1 := by
  unfold rkW
  refine cntB_self hk ?_
  cases up <;> simp
def skW (W : KW) (up : Bool) (cv : Nat → Bool) (x : Option Nat) : Option Nat := skp (goW W up) cv 8 x
theorem skW_eq {W : KW} (h8 : W.1 ≤ 8) (up : Bool) (cv : Nat → Bool) {k n : Nat} (hk : k < W.1) (hn : 8 ≤ n) : skp (goW W up) cv n (some k) = skW W up cv (some k) :=
  skp_stable (rkW W up) (fun _ _ h => goW_rk h) n k 8 (by have := rkW_lt (up := up) hk; omega) (by have := rkW_lt (up := up) hk; omega)
theorem skp_lt {W : KW} {up : Bool} {cv : Nat → Bool} : ∀ {n k j : Nat}, k < W.1 → skp (goW W up) cv n (some k) = some j → j < W.1 ∧ rkW W up j ≤ rkW W up k := by
  intro n
  induction n with
  | zero => intro k j hk h; cases h; exact ⟨hk, Nat.le_refl _⟩
  | succ n ih =>
    intro k j hk h
    unfold skp at h
    split at h
    · cases hb : goW W up k with
      | none => rw [hb, skp_none] at h; cases h
      | some i =>
        rw [hb] at h
        have h1 := ih (goW_lt hb) h
        have h2 := goW_rk hb
        exact ⟨h1.1, by omega⟩
    · cases h; exact ⟨hk, Nat.le_refl _⟩
def lossS (X : ST) : ST := (none, X.2.1, X.2.2.1, X.2.2.2.1, 0)
def losF (wood : Bool) (X : ST) : Bool := decide ((X.2.2.1 + 1) % 2 = 0) && wood
def comF (wood : Bool) (X : ST) : Nat := if losF wood X then X.2.2.2.1 + 1 else X.2.2.2.1
def comL (st : Nat → Nat) (wood : Bool) (k : Nat) (X : ST) : Nat := (if losF wood X then X.2.2.2.2 - 1 else X.2.2.2.2) - (if st k = 1 then 1 else 0)
def comeS (W : KW) (wood : Bool) (h k : Nat) (X : ST) : ST × Bool :=
  if comL W.2.1 wood k X = 0 then ((none, h, X.2.2.1 + 1, comF wood X, 0), false) else ((some k, h, X.2.2.1 + 1, comF wood X, comL W.2.1 wood k X), true)
def stayS (st : Nat → Nat) (k : Nat) : Nat := if st k = 2 then 2 else 1
/-- a saying: its hour, its well, its bucket (1 wood), how many letters -/
abbrev KS : Type := Nat × Nat × Nat × Nat
def goesS (W : KW) (H : KH) (wood : Bool) (h k : Nat) (X : ST) : ST × Bool :=
  match goW W (H.2.1 h k) k with
  | none => ((some k, h, X.2.2), false)
  | some j => match skW W (H.2.1 h k) (H.1 h) (some j) with
    | none => (lossS X, false)
    | some i => comeS W wood h i X
def stepS (W : KW) (H : KH) (S : KS) (h : Nat) (X : ST) : ST × Bool :=
  if S.1 = h then (if S.2.1 < W.1 ∧ H.1 h S.2.1 = false then ((some S.2.1, h, X.2.2), false) else (lossS X, false))
  else match X.1 with
  | none => (X, false)
  | some k =>
    if H.2.2 h = true ∧ laW W ≠ some k then
      (match laW W with
      | none => (lossS X, false)
      | some j => if H.1 h j then (lossS X, false) else comeS W (S.2.2.1 == 1) h j X)
    else if h = X.2.1 + stayS W.2.1 k then goesS W H (S.2.2.1 == 1) h k X
    else (X, false)
def lifS (W : KW) (H : KH) (S : KS) : Nat → ST
  | 0 => (none, 0, 0, 0, S.2.2.2)
  | h + 1 => (stepS W H S h (lifS W H S h)).1
def hrdS (W : KW) (H : KH) (S : KS) (h : Nat) : Bool := (stepS W H S h (lifS W H S h)).2
