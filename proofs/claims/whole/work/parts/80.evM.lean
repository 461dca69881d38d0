/-! the reference: lids, coins, droughts -/
theorem any_loop (f : Nat → Int32 → Int32 → Option Int32) (p : Nat → Bool) (ne : Nat) (hend : ∀ n acc, f (n + 1) (b2i acc) (nI ne) = some (b2i acc)) (hstep : ∀ n i acc, i < ne → f (n + 1) (b2i acc) (nI i) = f n (b2i (acc || p i)) (nI (i + 1))) : ∀ m n i acc, i + m = ne → m < n → f n (b2i acc) (nI i) = some (b2i (acc || anyF p i m)) := by
  intro m
  induction m with
  | zero =>
    intro n i acc h hn
    obtain ⟨n', rfl⟩ : ∃ n', n = n' + 1 := ⟨n - 1, by omega⟩
    have : i = ne := by omega
    subst this
    rw [hend, anyF, Bool.or_false]
  | succ m ih =>
    intro n i acc h hn
    obtain ⟨n', rfl⟩ : ∃ n', n = n' + 1 := ⟨n - 1, by omega⟩
    rw [hstep n' i acc (by omega), ih n' (i + 1) _ (by omega) (by omega), anyF, Bool.or_assoc]
/-- the reference's events: those on are in force -/
def ME (mm : Mem) (E : EV) (ne : Nat) (on : Nat → Bool) : Prop := ne ≤ 8 ∧ mm 0 11 = nI ne ∧ (∃ N, N < 2 ^ 31 ∧ mm 0 13 = nI N ∧ ∀ i, i < ne → on i = !(N.testBit i)) ∧ ∀ i, i < ne → (mm 9 (3 * i) = nI (E.1 i) ∧ mm 9 (3 * i + 1) = nI (E.2.1 i) ∧ mm 9 (3 * i + 2) = nI (E.2.2 i)) ∧ E.1 i < 3 ∧ E.2.1 i < 40 ∧ E.2.2 i < 8
theorem ix3 {i : Nat} (hi : i < 8) : (3 : Int32) * nI i = nI (3 * i) ∧ nI (3 * i) + (1 : Int32) = nI (3 * i + 1) ∧ nI (3 * i) + (2 : Int32) = nI (3 * i + 2) ∧ (nI (3 * i)).toNatClampNeg = 3 * i ∧ (nI (3 * i + 1)).toNatClampNeg = 3 * i + 1 ∧ (nI (3 * i + 2)).toNatClampNeg = 3 * i + 2 :=
  ⟨pk_mul 3 i, nI_1 _, nI_add _ 2, nI_clamp (by omega), nI_clamp (by omega), nI_clamp (by omega)⟩
theorem eqI {a b : Nat} (ha : a < 2 ^ 31) (hb : b < 2 ^ 31) : (nI a = nI b) = (a = b) := propext (nI_eq ha hb)
theorem in_sub {h t : Nat} (hh : h < 2 ^ 30) (ht : t < 2 ^ 30) : (0 ≤ nI h - nI t ∧ nI h - nI t < 3) ↔ (t ≤ h ∧ h ≤ t + 2) := by
  rw [Int32.le_iff_toInt_le, Int32.lt_iff_toInt_lt, pk_sub_toInt hh ht, show (0 : Int32).toInt = 0 from by decide, show (3 : Int32).toInt = 3 from by decide]
  omega
theorem FU_lt {m : Nat} (h : m < 100000) : m < FU := h
theorem f10_covered {mm : Mem} {E : EV} {ne : Nat} {on : Nat → Bool} (M : ME mm E ne on) {h k : Nat} (hh : h < 2 ^ 30) (hk : k < 2 ^ 30) : F10_isCovered (nI h) (nI k) mm = some (b2i (covS E ne on h k)) := by
  obtain ⟨h8, hne, ⟨N, hN, hnot, hon⟩, hev⟩ := M
  have key := any_loop (fun n a i => F10_isCovered_h5 (nI h) (nI k) mm n a i) (fun i => on i && isLd E h k i) ne ?_ ?_ ne FU 0 false (by omega) (FU_lt (by omega))
  · exact key
  · intro n acc
    show F10_isCovered_p5 _ _ _ _ _ _ = _
    unfold F10_isCovered_p5
    rw [hne, if_pos (nI_le (Nat.le_refl _) (by omega)), bz_in (b2i_z acc)]
  · intro n i acc hi
    obtain ⟨⟨e1, e2, e3⟩, l1, l2, l3⟩ := hev i hi
    obtain ⟨x1, x2, x3, x4, x5, x6⟩ := ix3 (show i < 8 by omega)
    show F10_isCovered_p5 _ _ _ _ _ _ = _
    unfold F10_isCovered_p5 F10_isCovered_b86 F10_isCovered_b82 F10_isCovered_b87
    rw [hne, if_neg (nI_ge hi (by omega)), hnot, f10_isIn hN (by omega), nI_1]
    cases acc with
    | true => rw [if_neg (by decide)]; rfl
    | false =>
      rw [if_pos (by decide), hon i hi]
      cases hb : N.testBit i with
      | true => simp [b2i]
      | false =>
        simp only [Option.bind_some, b2i_0, if_true, x1, x2, x3, x4, x5, x6, e1, e2, e3, ckI (show 3 * i < 24 by omega) (by decide), ckI (show 3 * i + 1 < 24 by omega) (by decide), ckI (show 3 * i + 2 < 24 by omega) (by decide), f10_b 3 (show (2 : Int64).toInt + 1 = (3 : Int32).toInt by decide), in_sub hh (show E.2.1 i < 2 ^ 30 by omega), Bool.false_or, Bool.not_false, Bool.true_and]
        rw [show ((1 : Int32) = nI 1) from rfl]
        simp only [eqI (show E.1 i < 2 ^ 31 by omega) (show 1 < 2 ^ 31 by decide), eqI (show E.2.2 i < 2 ^ 31 by omega) (show k < 2 ^ 31 by omega)]
        unfold isLd
        by_cases c1 : E.1 i = 1
        · by_cases c2 : E.2.2 i = k
          · by_cases c3 : E.2.1 i ≤ h ∧ h ≤ E.2.1 i + 2
            · simp [c1, c2, c3, b2i]
              rfl
            · rw [if_pos c1, if_pos c2, if_neg c3]
              have : (decide (E.2.1 i ≤ h) && decide (h ≤ E.2.1 i + 2)) = false := by
                rw [← Bool.decide_and]; simpa using c3
              simp only [c1, c2, beq_self_eq_true, Bool.true_and, this]
              rfl
          · rw [if_pos c1, if_neg c2]
            simp [c2, b2i]
        · rw [if_neg c1]
          simp [c1, b2i]
theorem f10_coin {mm : Mem} {E : EV} {ne : Nat} {on : Nat → Bool} (M : ME mm E ne on) {h k : Nat} (hh : h < 2 ^ 30) (hk : k < 2 ^ 30) (od : Bool) (hod : od = true ↔ (mm 0 14 = nI h ∧ mm 0 15 = nI k)) : F10_isCoin (nI h) (nI k) mm = some (b2i (od || coinS E ne on h k)) := by
  obtain ⟨h8, hne, ⟨N, hN, hnot, hon⟩, hev⟩ := M
  have key := any_loop (fun n a i => F10_isCoin_h25 (nI h) (nI k) mm n a i) (fun i => on i && isCn E h k i) ne ?_ ?_ ne FU 0 od (by omega) (FU_lt (by omega))
  · unfold F10_isCoin F10_isCoin_b20 F10_isCoin_b21
    by_cases c1 : mm 0 14 = nI h
    · by_cases c2 : mm 0 15 = nI k
      · have e : od = true := hod.mpr ⟨c1, c2⟩
        subst e
        rw [if_pos c1, if_pos c2]
        exact key
      · have e : od = false := by
          cases od with
          | false => rfl
          | true => exact absurd (hod.mp rfl).2 c2
        subst e
        rw [if_pos c1, if_neg c2]
        exact key
    · have e : od = false := by
        cases od with
        | false => rfl
        | true => exact absurd (hod.mp rfl).1 c1
      subst e
      rw [if_neg c1]
      exact key
  · intro n acc
    show F10_isCoin_p25 _ _ _ _ _ _ = _
    unfold F10_isCoin_p25
    rw [hne, if_pos (nI_le (Nat.le_refl _) (by omega)), bz_in (b2i_z acc)]
  · intro n i acc hi
    obtain ⟨⟨e1, e2, e3⟩, l1, l2, l3⟩ := hev i hi
    obtain ⟨x1, x2, x3, x4, x5, x6⟩ := ix3 (show i < 8 by omega)
    show F10_isCoin_p25 _ _ _ _ _ _ = _
    unfold F10_isCoin_p25 F10_isCoin_b96 F10_isCoin_b92 F10_isCoin_b97
    rw [hne, if_neg (nI_ge hi (by omega)), hnot, f10_isIn hN (by omega), nI_1]
    cases acc with
    | true => rw [if_neg (by decide)]; rfl
    | false =>
      rw [if_pos (by decide), hon i hi]
      cases hb : N.testBit i with
      | true => simp [b2i]
      | false =>
        simp only [Option.bind_some, b2i_0, if_true, x1, x2, x3, x4, x5, x6, e1, e2, e3, ckI (show 3 * i < 24 by omega) (by decide), ckI (show 3 * i + 1 < 24 by omega) (by decide), ckI (show 3 * i + 2 < 24 by omega) (by decide), Bool.false_or, Bool.not_false, Bool.true_and]
        rw [show ((0 : Int32) = nI 0) from rfl]
        simp only [eqI (show E.1 i < 2 ^ 31 by omega) (show 0 < 2 ^ 31 by decide), eqI (show E.2.1 i < 2 ^ 31 by omega) (show h < 2 ^ 31 by omega), eqI (show E.2.2 i < 2 ^ 31 by omega) (show k < 2 ^ 31 by omega)]
        unfold isCn
        by_cases c1 : E.1 i = 0
        · by_cases c2 : E.2.1 i = h
          · by_cases c3 : E.2.2 i = k
            · rw [if_pos c1, if_pos c2, if_pos c3]
              simp only [c1, c2, c3, beq_self_eq_true, Bool.true_and]
              rfl
            · rw [if_pos c1, if_pos c2, if_neg c3]
              simp only [c1, c2, beq_self_eq_true, Bool.true_and, show (E.2.2 i == k) = false from by simpa using c3]
              rfl
          · rw [if_pos c1, if_neg c2]
            simp only [show (E.2.1 i == h) = false from by simpa using c2, Bool.and_false, Bool.false_and]
            rfl
        · rw [if_neg c1]
          simp only [show (E.1 i == 0) = false from by simpa using c1, Bool.false_and]
          rfl
theorem f10_drought {mm : Mem} {E : EV} {ne : Nat} {on : Nat → Bool} (M : ME mm E ne on) {h : Nat} (hh : h < 2 ^ 30) : F10_isDrought (nI h) mm = some (b2i (dryS E ne on h)) := by
  obtain ⟨h8, hne, ⟨N, hN, hnot, hon⟩, hev⟩ := M
  have key := any_loop (fun n a i => F10_isDrought_h4 (nI h) mm n a i) (fun i => on i && isDr E h i) ne ?_ ?_ ne FU 0 false (by omega) (FU_lt (by omega))
  · exact key
  · intro n acc
    show F10_isDrought_p4 _ _ _ _ _ = _
    unfold F10_isDrought_p4
    rw [hne, if_pos (nI_le (Nat.le_refl _) (by omega)), bz_in (b2i_z acc)]
  · intro n i acc hi
    obtain ⟨⟨e1, e2, e3⟩, l1, l2, l3⟩ := hev i hi
    obtain ⟨x1, x2, x3, x4, x5, x6⟩ := ix3 (show i < 8 by omega)
    show F10_isDrought_p4 _ _ _ _ _ = _
    unfold F10_isDrought_p4 F10_isDrought_b57 F10_isDrought_b53 F10_isDrought_b58
    rw [hne, if_neg (nI_ge hi (by omega)), hnot, f10_isIn hN (by omega), nI_1]
    cases acc with
    | true => rw [if_neg (by decide)]; rfl
    | false =>
      rw [if_pos (by decide), hon i hi]
      cases hb : N.testBit i with
      | true => simp [b2i]
      | false =>
        simp only [Option.bind_some, b2i_0, if_true, x1, x2, x3, x4, x5, x6, e1, e2, e3, ckI (show 3 * i < 24 by omega) (by decide), ckI (show 3 * i + 1 < 24 by omega) (by decide), ckI (show 3 * i + 2 < 24 by omega) (by decide), Bool.false_or, Bool.not_false, Bool.true_and]
        rw [show ((2 : Int32) = nI 2) from rfl]
        simp only [eqI (show E.1 i < 2 ^ 31 by omega) (show 2 < 2 ^ 31 by decide), eqI (show E.2.1 i < 2 ^ 31 by omega) (show h < 2 ^ 31 by omega)]
        unfold isDr
        by_cases c1 : E.1 i = 2
        · by_cases c2 : E.2.1 i = h
          · rw [if_pos c1, if_pos c2]
            simp only [c1, c2, beq_self_eq_true, Bool.true_and]
            rfl
          · rw [if_pos c1, if_neg c2]
            simp only [show (E.2.1 i == h) = false from by simpa using c2, Bool.and_false]
            rfl
        · rw [if_neg c1]
          simp only [show (E.1 i == 2) = false from by simpa using c1, Bool.false_and]
          rfl
