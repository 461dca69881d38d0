/-! the text of sayings, told plainly; the reference reads it so -/
def okS (k c : Nat) : Bool := if k = 0 then decide (97 ≤ c) && decide (c ≤ 120) else if k = 1 then decide (48 ≤ c) && decide (c ≤ 55) else if k = 2 then c == 105 || c == 119 else if k < 7 then decide (97 ≤ c) && decide (c ≤ 104) else false
def vS (k c : Nat) : Nat := if k = 0 then c - 97 else if k = 1 then c - 48 else if k = 2 then (if c = 105 then 0 else 1) else c - 97
/-- the fault; the saying; the sign of it; where each begins; how many letters -/
abbrev PS : Type := Option Nat × Nat × Nat × (Nat → Nat) × (Nat → Nat)
def stp (b : Nat → Nat) (i : Nat) (X : PS) : PS := match X.1 with
  | some _ => X
  | none => if X.2.1 < 8 ∧ okS X.2.2.1 (b i) = true then (none, X.2.1, X.2.2.1 + 1, X.2.2.2.1, setF X.2.2.2.2 X.2.1 (X.2.2.1 - 2))
    else if 3 < X.2.2.1 ∧ b i = 59 then (none, X.2.1 + 1, 0, setF X.2.2.2.1 (X.2.1 + 1) (i + 1), X.2.2.2.2)
    else (some i, X.2)
def pS (b : Nat → Nat) : Nat → PS
  | 0 => (none, 0, 0, fun _ => 0, fun _ => 0)
  | i + 1 => stp b i (pS b i)
theorem pS_s (b : Nat → Nat) (i : Nat) : pS b (i + 1) = stp b i (pS b i) := rfl
def fS (b : Nat → Nat) (n : Nat) : Option Nat := match (pS b n).1 with
  | some i => some i
  | none => if 0 < n ∧ (pS b n).2.2.1 < 4 then some n else none
def nS (b : Nat → Nat) (n : Nat) : Nat := match fS b n with
  | some _ => 0
  | none => (pS b n).2.1 + (if 0 < n then 1 else 0)
def ssS (b : Nat → Nat) (n p : Nat) : KS := (vS 0 (b ((pS b n).2.2.2.1 p)), vS 1 (b ((pS b n).2.2.2.1 p + 1)), vS 2 (b ((pS b n).2.2.2.1 p + 2)), (pS b n).2.2.2.2 p)
def ltS (b : Nat → Nat) (n p j : Nat) : Nat := vS 3 (b ((pS b n).2.2.2.1 p + 3 + j))
theorem stp_ok {b : Nat → Nat} {i s k : Nat} {po sz : Nat → Nat} (h1 : s < 8) (h2 : okS k (b i) = true) : stp b i (none, s, k, po, sz) = (none, s, k + 1, po, setF sz s (k - 2)) := by
  unfold stp
  exact if_pos ⟨h1, h2⟩
theorem stp_next {b : Nat → Nat} {i s k : Nat} {po sz : Nat → Nat} (h : ¬ (s < 8 ∧ okS k (b i) = true)) (h2 : 3 < k ∧ b i = 59) : stp b i (none, s, k, po, sz) = (none, s + 1, 0, setF po (s + 1) (i + 1), sz) := by
  unfold stp
  dsimp only
  rw [if_neg h, if_pos h2]
theorem stp_bad {b : Nat → Nat} {i s k : Nat} {po sz : Nat → Nat} (h : ¬ (s < 8 ∧ okS k (b i) = true)) (h2 : ¬ (3 < k ∧ b i = 59)) : stp b i (none, s, k, po, sz) = (some i, s, k, po, sz) := by
  unfold stp
  dsimp only
  rw [if_neg h, if_neg h2]
theorem pS_stuck {b : Nat → Nat} {i j f : Nat} (h : (pS b i).1 = some f) (hj : i ≤ j) : (pS b j).1 = some f := by
  induction j with
  | zero => have : i = 0 := by omega
            subst this; exact h
  | succ j ih =>
    by_cases e : i = j + 1
    · subst e; exact h
    · have := ih (by omega)
      rw [pS_s]
      unfold stp
      rw [this]
      exact this
theorem fS_hit {b : Nat → Nat} {n i s k : Nat} {po sz : Nat → Nat} (h : pS b i = (none, s, k, po, sz)) (h1 : ¬ (s < 8 ∧ okS k (b i) = true)) (h2 : ¬ (3 < k ∧ b i = 59)) (hi : i < n) : fS b n = some i := by
  have : (pS b (i + 1)).1 = some i := by rw [pS_s, h, stp_bad h1 h2]
  unfold fS
  rw [pS_stuck this (by omega)]
theorem fS_end {b : Nat → Nat} {n s k : Nat} {po sz : Nat → Nat} (h : pS b n = (none, s, k, po, sz)) (h0 : 0 < n) (h1 : k < 4) : fS b n = some n := by
  unfold fS
  rw [h]
  dsimp only
  rw [if_pos ⟨h0, h1⟩]
theorem fS_ok {b : Nat → Nat} {n s k : Nat} {po sz : Nat → Nat} (h : pS b n = (none, s, k, po, sz)) (h1 : n = 0 ∨ 4 ≤ k) : fS b n = none := by
  unfold fS
  rw [h]
  dsimp only
  rw [if_neg (by omega)]
theorem tb_sayOf : ∀ k, k < 8 → ∀ c, c < 256 → F10_sayingOf (nI k) (nI c) = some (if okS k c then nI (vS k c) else -9) := by decide +kernel
theorem tb_vS9 : ∀ k, k < 8 → ∀ c, c < 256 → ¬ nI (vS k c) = -9 := by decide +kernel
theorem tb_next : ∀ k, k < 8 → okS k 59 = false := by decide
theorem tb_h : ∀ c, c < 256 → okS 0 c = true → vS 0 c < 40 := by decide +kernel
theorem tb_w : ∀ c, c < 256 → okS 1 c = true → vS 1 c < 8 := by decide +kernel
theorem tb_b : ∀ c, c < 256 → vS 2 c < 2 := by decide +kernel
theorem okS3 {k c : Nat} (h : 3 ≤ k) (h2 : k < 7) : okS k c = okS 3 c := by
  unfold okS
  rw [if_neg (by omega), if_neg (by omega), if_neg (by omega), if_pos h2, if_neg (by decide), if_neg (by decide), if_neg (by decide), if_pos (by decide)]
theorem okS7 {k c : Nat} (h : 7 ≤ k) : okS k c = false := by
  unfold okS
  rw [if_neg (by omega), if_neg (by omega), if_neg (by omega), if_neg (by omega)]
theorem vS3 {k c : Nat} (h : 3 ≤ k) : vS k c = vS 3 c := by
  unfold vS
  rw [if_neg (by omega), if_neg (by omega), if_neg (by omega), if_neg (by decide), if_neg (by decide), if_neg (by decide)]
/-- what holds on the way through a text -/
def PI (b : Nat → Nat) (i : Nat) (X : PS) : Prop := X.2.2.2.1 X.2.1 + X.2.2.1 = i ∧ X.2.1 ≤ 8 ∧ X.2.2.1 ≤ 7 ∧ (X.2.1 = 8 → X.2.2.1 = 0) ∧ (0 < X.2.2.1 → X.2.2.2.2 X.2.1 = X.2.2.1 - 3) ∧ (∀ j, j < X.2.2.1 → okS j (b (X.2.2.2.1 X.2.1 + j)) = true) ∧ ∀ p, p < X.2.1 → X.2.2.2.1 p + X.2.2.2.2 p + 3 < i ∧ 1 ≤ X.2.2.2.2 p ∧ X.2.2.2.2 p ≤ 4 ∧ ∀ j, j < X.2.2.2.2 p + 3 → okS j (b (X.2.2.2.1 p + j)) = true
theorem pS_inv (b : Nat → Nat) : ∀ i, (pS b i).1 = none → PI b i (pS b i) := by
  intro i
  induction i with
  | zero => intro _; exact ⟨rfl, Nat.zero_le 8, Nat.zero_le 7, fun z => (by cases z), fun z => absurd z (Nat.lt_irrefl 0), fun j hj => absurd hj (Nat.not_lt_zero j), fun p hp => absurd hp (Nat.not_lt_zero p)⟩
  | succ i ih =>
    intro h
    have h0 : (pS b i).1 = none := by
      cases hc : (pS b i).1 with
      | none => rfl
      | some f => rw [pS_stuck hc (Nat.le_succ i)] at h; cases h
    have P := ih h0
    rw [pS_s] at h ⊢
    generalize pS b i = X at P h h0 ⊢
    obtain ⟨f, s, k, po, sz⟩ := X
    dsimp only at h0
    subst h0
    obtain ⟨p1, p2, p3, p4, p5, p6, p7⟩ := P
    dsimp only at p1 p2 p3 p4 p5 p6 p7
    by_cases c1 : s < 8 ∧ okS k (b i) = true
    · rw [stp_ok c1.1 c1.2]
      have k7 : k < 7 := by
        rcases Nat.lt_or_ge k 7 with y | y
        · exact y
        · rw [okS7 y] at c1; cases c1.2
      refine ⟨by dsimp only; omega, p2, by dsimp only; omega, fun z => by dsimp only at z; omega, fun _ => by dsimp only; rw [setF_s]; omega, fun j hj => ?_, fun p hp => ?_⟩
      · dsimp only at hj ⊢
        by_cases e : j = k
        · subst e; rw [p1]; exact c1.2
        · exact p6 j (by omega)
      · dsimp only at hp ⊢
        obtain ⟨q1, q2, q3, q4⟩ := p7 p hp
        rw [setF_n (show ¬ p = s by omega)]
        exact ⟨by omega, q2, q3, q4⟩
    · by_cases c2 : 3 < k ∧ b i = 59
      · rw [stp_next c1 c2]
        have s8 : s < 8 := by
          rcases Nat.lt_or_ge s 8 with y | y
          · exact y
          · have := p4 (by omega); omega
        refine ⟨by dsimp only; rw [setF_s], by dsimp only; omega, by dsimp only; omega, fun _ => rfl, fun z => absurd z (by dsimp only; omega), fun j hj => absurd hj (by dsimp only; omega), fun p hp => ?_⟩
        dsimp only at hp ⊢
        rw [setF_n (show ¬ p = s + 1 by omega)]
        by_cases e : p = s
        · subst e
          have := p5 (by omega)
          rw [this]
          exact ⟨by omega, by omega, by omega, fun j hj => p6 j (by omega)⟩
        · obtain ⟨q1, q2, q3, q4⟩ := p7 p (by omega)
          exact ⟨by omega, q2, q3, q4⟩
      · rw [stp_bad c1 c2] at h
        cases h
/-- the sayings of a text without fault -/
theorem nS_ok {b : Nat → Nat} {n : Nat} (hb : ∀ i, i < n → b i < 256) (h : fS b n = none) : nS b n ≤ 8 ∧ ∀ p, p < nS b n → KO (ssS b n p) ∧ (pS b n).2.2.2.1 p + (pS b n).2.2.2.2 p + 3 ≤ n := by
  have h0 : (pS b n).1 = none := by
    unfold fS at h
    cases hc : (pS b n).1 with
    | none => rfl
    | some i => rw [hc] at h; cases h
  have hk : n = 0 ∨ 4 ≤ (pS b n).2.2.1 := by
    unfold fS at h
    rw [h0] at h
    dsimp only at h
    split at h
    · cases h
    · omega
  have hn : nS b n = (pS b n).2.1 + (if 0 < n then 1 else 0) := by unfold nS; rw [h]
  obtain ⟨p1, p2, p3, p4, p5, p6, p7⟩ := pS_inv b n h0
  have hs : 0 < n → (pS b n).2.1 < 8 := fun hp => by
    rcases Nat.lt_or_ge (pS b n).2.1 8 with y | y
    · exact y
    · have := p4 (by omega); omega
  refine ⟨?_, fun p hp => ?_⟩
  · rw [hn]
    split
    · have := hs (by assumption); omega
    · omega
  · have hall : (pS b n).2.2.2.1 p + (pS b n).2.2.2.2 p + 3 ≤ n ∧ 1 ≤ (pS b n).2.2.2.2 p ∧ (pS b n).2.2.2.2 p ≤ 4 ∧ ∀ j, j < (pS b n).2.2.2.2 p + 3 → okS j (b ((pS b n).2.2.2.1 p + j)) = true := by
      by_cases e : p < (pS b n).2.1
      · obtain ⟨q1, q2, q3, q4⟩ := p7 p e
        exact ⟨by omega, q2, q3, q4⟩
      · rw [hn] at hp
        have hn0 : 0 < n := by
          rcases Nat.eq_zero_or_pos n with y | y
          · subst y
            rw [if_neg (by omega)] at hp; omega
          · exact y
        rw [if_pos hn0] at hp
        have ep : p = (pS b n).2.1 := by omega
        rw [ep]
        have := p5 (by omega)
        exact ⟨by omega, by omega, by omega, fun j hj => p6 j (by omega)⟩
    obtain ⟨q1, q2, q3, q4⟩ := hall
    refine ⟨⟨?_, ?_, ?_, q2, q3⟩, q1⟩
    · exact tb_h _ (hb _ (by omega)) (q4 0 (by omega))
    · exact tb_w _ (hb _ (by omega)) (q4 1 (by omega))
    · exact tb_b _ (hb _ (by omega))
