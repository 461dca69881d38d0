/-! the reference: down, up, the last well -/
theorem up_loop {α β : Type} (f : Nat → α → Int32 → Option β) (g : Nat → α) (ne : Nat) (r : Option β) (hend : ∀ n, f (n + 1) (g ne) (nI ne) = r) (hstep : ∀ n i, i < ne → f (n + 1) (g i) (nI i) = f n (g (i + 1)) (nI (i + 1))) : ∀ m n i, i + m = ne → m < n → f n (g i) (nI i) = r := by
  intro m
  induction m with
  | zero =>
    intro n i h hn
    obtain ⟨n', rfl⟩ : ∃ n', n = n' + 1 := ⟨n - 1, by omega⟩
    have : i = ne := by omega
    subst this
    exact hend n'
  | succ m ih =>
    intro n i h hn
    obtain ⟨n', rfl⟩ : ∃ n', n = n' + 1 := ⟨n - 1, by omega⟩
    rw [hstep n' i (by omega), ih n' (i + 1) (by omega) (by omega)]
theorem up_all {α β : Type} (f : Nat → α → Int32 → Option β) (g : Nat → α) (ne : Nat) (r : Option β) (hne : ne < 100000) (hend : ∀ n, f (n + 1) (g ne) (nI ne) = r) (hstep : ∀ n i, i < ne → f (n + 1) (g i) (nI i) = f n (g (i + 1)) (nI (i + 1))) : f FU (g 0) (nI 0) = r := up_loop f g ne r hend hstep ne FU 0 (by omega) (FU_lt hne)
theorem dnS_s (ht : Nat → Nat) (k j : Nat) : dnS ht k (j + 1) = match dnS ht k j with | none => if ht j < ht k then some j else none | some b => if ht j < ht k ∧ ht b < ht j then some j else some b := rfl
theorem upS_s (ht : Nat → Nat) (k j : Nat) : upS ht k (j + 1) = match upS ht k j with | none => if ht k < ht j then some j else none | some b => if ht k < ht j ∧ ht j < ht b then some j else some b := rfl
theorem laS_s (ht : Nat → Nat) (j : Nat) : laS ht (j + 1) = match laS ht j with | none => some j | some b => if ht j < ht b then some j else some b := rfl
/-- the reference's wells -/
def MW (mm : Mem) (nw : Nat) (st ht : Nat → Nat) : Prop := nw ≤ 8 ∧ mm 0 7 = nI nw ∧ ∀ k, k < nw → mm 7 (2 * k) = nI (st k) ∧ mm 7 (2 * k + 1) = nI (ht k) ∧ st k < 3 ∧ ht k < 10
theorem ix2 {i : Nat} (hi : i < 8) : (2 : Int32) * nI i = nI (2 * i) ∧ nI (2 * i) + (1 : Int32) = nI (2 * i + 1) ∧ (nI (2 * i)).toNatClampNeg = 2 * i ∧ (nI (2 * i + 1)).toNatClampNeg = 2 * i + 1 :=
  ⟨pk_mul 2 i, nI_1 _, nI_clamp (by omega), nI_clamp (by omega)⟩
theorem leI {a b : Nat} (ha : a < 2 ^ 31) (hb : b < 2 ^ 31) : (nI a ≤ nI b) = (a ≤ b) := propext (nI_leI ha hb)
theorem ltI {a b : Nat} (ha : a < 2 ^ 31) (hb : b < 2 ^ 31) : (nI a < nI b) = (a < b) := propext (nI_ltI ha hb)
theorem f10_down {mm : Mem} {nw : Nat} {st ht : Nat → Nat} (M : MW mm nw st ht) {k : Nat} (hk : k < nw) : F10_down (nI k) mm = some (en (dnS ht k nw)) := by
  obtain ⟨h8, hnw, hw⟩ := M
  obtain ⟨-, k2, k3, k4⟩ := hw k hk
  obtain ⟨y1, y2, y3, y4⟩ := ix2 (show k < 8 by omega)
  refine up_all (fun n a i => F10_down_h4 (nI k) mm n a i) (fun i => en (dnS ht k i)) nw _ (by omega) ?_ ?_
  · intro n
    show F10_down_p4 _ _ _ _ _ = _
    unfold F10_down_p4
    rw [hnw, if_pos (nI_le (Nat.le_refl _) (by omega))]
  · intro n i hi
    obtain ⟨-, i2, i3, i4⟩ := hw i hi
    obtain ⟨x1, x2, x3, x4⟩ := ix2 (show i < 8 by omega)
    show F10_down_p4 _ _ _ _ _ = _
    unfold F10_down_p4 F10_down_b40 F10_down_b75 F10_down_b79 F10_down_b80
    rw [hnw, if_neg (nI_ge hi (by omega)), nI_1]
    simp only [x1, x2, x3, x4, y1, y2, y3, y4, ckI (show 2 * i + 1 < 16 by omega) (by decide), ckI (show 2 * k + 1 < 16 by omega) (by decide), i2, k2, leI (show ht k < 2 ^ 31 by omega) (show ht i < 2 ^ 31 by omega), if_true, if_neg (show ¬ (1 : Int32) = 0 by decide)]
    rw [dnS_s]
    cases hb : dnS ht k i with
    | none =>
      dsimp only
      by_cases c : ht k ≤ ht i
      · rw [if_pos c, if_neg (by omega)]
      · rw [if_neg c, if_pos (show en none = -1 from rfl), if_pos (show ht i < ht k by omega)]
        rfl
    | some b =>
      have hbl := (dnS_lt hb).1
      obtain ⟨-, b2, b3, b4⟩ := hw b (by omega)
      obtain ⟨z1, z2, z3, z4⟩ := ix2 (show b < 8 by omega)
      simp only [en, if_neg (nI_ne1 (show b < 2 ^ 31 by omega)), z1, z2, z4, ckI (show 2 * b + 1 < 16 by omega) (by decide), b2, leI (show ht i < 2 ^ 31 by omega) (show ht b < 2 ^ 31 by omega)]
      by_cases c : ht k ≤ ht i
      · rw [if_pos c, if_neg (by omega)]
      · by_cases c2 : ht i ≤ ht b
        · rw [if_neg c, if_pos c2, if_neg (by omega)]
        · rw [if_neg c, if_neg c2, if_pos (by omega)]
theorem f10_up {mm : Mem} {nw : Nat} {st ht : Nat → Nat} (M : MW mm nw st ht) {k : Nat} (hk : k < nw) : F10_up (nI k) mm = some (en (upS ht k nw)) := by
  obtain ⟨h8, hnw, hw⟩ := M
  obtain ⟨-, k2, k3, k4⟩ := hw k hk
  obtain ⟨y1, y2, y3, y4⟩ := ix2 (show k < 8 by omega)
  refine up_all (fun n a i => F10_up_h4 (nI k) mm n a i) (fun i => en (upS ht k i)) nw _ (by omega) ?_ ?_
  · intro n
    show F10_up_p4 _ _ _ _ _ = _
    unfold F10_up_p4
    rw [hnw, if_pos (nI_le (Nat.le_refl _) (by omega))]
  · intro n i hi
    obtain ⟨-, i2, i3, i4⟩ := hw i hi
    obtain ⟨x1, x2, x3, x4⟩ := ix2 (show i < 8 by omega)
    show F10_up_p4 _ _ _ _ _ = _
    unfold F10_up_p4 F10_up_b40 F10_up_b75 F10_up_b79 F10_up_b80
    rw [hnw, if_neg (nI_ge hi (by omega)), nI_1]
    simp only [x1, x2, x3, x4, y1, y2, y3, y4, ckI (show 2 * i + 1 < 16 by omega) (by decide), ckI (show 2 * k + 1 < 16 by omega) (by decide), i2, k2, leI (show ht i < 2 ^ 31 by omega) (show ht k < 2 ^ 31 by omega), if_true, if_neg (show ¬ (1 : Int32) = 0 by decide)]
    rw [upS_s]
    cases hb : upS ht k i with
    | none =>
      dsimp only
      by_cases c : ht i ≤ ht k
      · rw [if_pos c, if_neg (by omega)]
      · rw [if_neg c, if_pos (show en none = -1 from rfl), if_pos (show ht k < ht i by omega)]
        rfl
    | some b =>
      have hbl := (upS_lt hb).1
      obtain ⟨-, b2, b3, b4⟩ := hw b (by omega)
      obtain ⟨z1, z2, z3, z4⟩ := ix2 (show b < 8 by omega)
      simp only [en, if_neg (nI_ne1 (show b < 2 ^ 31 by omega)), z1, z2, z4, ckI (show 2 * b + 1 < 16 by omega) (by decide), b2, leI (show ht b < 2 ^ 31 by omega) (show ht i < 2 ^ 31 by omega)]
      by_cases c : ht i ≤ ht k
      · rw [if_pos c, if_neg (by omega)]
      · by_cases c2 : ht b ≤ ht i
        · rw [if_neg c, if_pos c2, if_neg (by omega)]
        · rw [if_neg c, if_neg c2, if_pos (by omega)]
theorem f10_last {mm : Mem} {nw : Nat} {st ht : Nat → Nat} (M : MW mm nw st ht) : F10_lastWell mm = some (en (laS ht nw)) := by
  obtain ⟨h8, hnw, hw⟩ := M
  refine up_all (fun n a i => F10_lastWell_h4 mm n a i) (fun i => en (laS ht i)) nw _ (by omega) ?_ ?_
  · intro n
    show F10_lastWell_p4 _ _ _ _ = _
    unfold F10_lastWell_p4
    rw [hnw, if_pos (nI_le (Nat.le_refl _) (by omega))]
  · intro n i hi
    obtain ⟨-, i2, i3, i4⟩ := hw i hi
    obtain ⟨x1, x2, x3, x4⟩ := ix2 (show i < 8 by omega)
    show F10_lastWell_p4 _ _ _ _ = _
    unfold F10_lastWell_p4 F10_lastWell_b40 F10_lastWell_b45
    rw [hnw, if_neg (nI_ge hi (by omega)), nI_1]
    simp only [x1, x2, x4, ckI (show 2 * i + 1 < 16 by omega) (by decide), i2]
    rw [laS_s]
    cases hb : laS ht i with
    | none => rw [if_pos (show en none = -1 from rfl)]; rfl
    | some b =>
      have hbl := laS_lt hb
      obtain ⟨-, b2, b3, b4⟩ := hw b (by omega)
      obtain ⟨z1, z2, z3, z4⟩ := ix2 (show b < 8 by omega)
      simp only [en, if_neg (nI_ne1 (show b < 2 ^ 31 by omega)), z1, z2, z4, ckI (show 2 * b + 1 < 16 by omega) (by decide), b2, leI (show ht b < 2 ^ 31 by omega) (show ht i < 2 ^ 31 by omega)]
      by_cases c2 : ht b ≤ ht i
      · rw [if_pos c2, if_neg (by omega)]
      · rw [if_neg c2, if_pos (by omega)]
theorem f10_next {mm : Mem} {nw : Nat} {st ht : Nat → Nat} (M : MW mm nw st ht) {k : Nat} (hk : k < nw) (up : Bool) : F10_next (nI k) (b2i up) mm = some (en (if up then upS ht k nw else dnS ht k nw)) := by
  unfold F10_next
  cases up with
  | false => rw [if_pos (show b2i false = 0 from rfl), f10_down M hk]; rfl
  | true => rw [if_neg (show ¬ b2i true = 0 from by decide), f10_up M hk]; rfl
