/-! read, copy, write -/
theorem read_loop {mc mm : Mem} {T : TX} {dr : Nat × EV} {s fo n : Nat} (hs : s < 4) (hn : n ≤ 60) (k3 : mc (26 + 2 * s) 2 = nI n) (k4 : mm 2 s = nI n) (k5 : ∀ i, i < n → mc (27 + 2 * s) i = mm 3 (60 * s + i)) : ∀ (d c n1 n2 : Nat) (M X : Mem) (ev : EV × Nat), c + d = 21 → d + 2 ≤ n1 → d + 2 ≤ n2 → (∀ k, k < 17 ∨ 21 ≤ k → M k = mc k) → (∀ k, k ≠ 0 → k ≠ 9 → X k = mm k) → IB M X T ev dr → ∃ r M' X' ev', F9_addEvents_h4 (F9_addEvents_b70 (26 + 2 * s)) (26 + 2 * s) n1 (nI c) (nI (3 * c)) M = some (r, M') ∧ F10_read_h29 (nI s) n2 (nI c) 1 X = some (r, X') ∧ IB M' X' T ev' dr := by
  intro d
  induction d with
  | zero =>
    intro c n1 n2 M X ev hc h1 h2 f g J
    obtain ⟨n1, rfl⟩ : ∃ m, n1 = m + 1 := ⟨n1 - 1, by omega⟩
    obtain ⟨n2, rfl⟩ : ∃ m, n2 = m + 1 := ⟨n2 - 1, by omega⟩
    refine ⟨nI c, M, X, ev, ?_, ?_, J⟩
    · show F9_addEvents_p4 _ _ _ _ _ _ = _
      unfold F9_addEvents_p4
      rw [f _ (by omega), k3, za2, if_pos (nI_le (by omega) (by omega))]
    · show F10_read_p29 _ _ _ _ _ = _
      unfold F10_read_p29
      rw [if_neg (show ¬ (1 : Int32) = 0 by decide), ckI hs (by decide), nI_clamp (show s < 2 ^ 31 by omega), g 2 (by decide) (by decide), k4, zm3, za3, if_pos (nI_lt (by omega) (by omega))]
  | succ d ih =>
    intro c n1 n2 M X ev hc h1 h2 f g J
    obtain ⟨n1, rfl⟩ : ∃ m, n1 = m + 1 := ⟨n1 - 1, by omega⟩
    obtain ⟨n2, rfl⟩ : ∃ m, n2 = m + 1 := ⟨n2 - 1, by omega⟩
    by_cases z : n < 3 * c + 3
    · refine ⟨nI c, M, X, ev, ?_, ?_, J⟩
      · show F9_addEvents_p4 _ _ _ _ _ _ = _
        unfold F9_addEvents_p4
        rw [f _ (by omega), k3, za2, if_pos (nI_le (by omega) (by omega))]
      · show F10_read_p29 _ _ _ _ _ = _
        unfold F10_read_p29
        rw [if_neg (show ¬ (1 : Int32) = 0 by decide), ckI hs (by decide), nI_clamp (show s < 2 ^ 31 by omega), g 2 (by decide) (by decide), k4, zm3, za3, if_pos (nI_lt z (by omega))]
    · have it : ∀ i, i < n → M (26 + 2 * s + 1) i = X 3 (60 * s + i) := fun i hi => by
        rw [f _ (by omega), g 3 (by decide) (by decide), show 26 + 2 * s + 1 = 27 + 2 * s by omega]; exact k5 i hi
      have hc9 : F9_addEvents_h4 (F9_addEvents_b70 (26 + 2 * s)) (26 + 2 * s) (n1 + 1) (nI c) (nI (3 * c)) M = ((F9_mayBeEvent (X 3 (60 * s + 3 * c)) (X 3 (60 * s + (3 * c + 1))) (X 3 (60 * s + (3 * c + 2)))).bind (fun q9 => (if q9 = (0 : Int32) then some (nI c, M) else ((F2_add 17 (X 3 (60 * s + 3 * c)) (X 3 (60 * s + (3 * c + 1))) (X 3 (60 * s + (3 * c + 2))) M).bind (fun q10 => (if q10.1 = (0 : Int32) then some (nI c, q10.2) else F9_addEvents_h4 (F9_addEvents_b70 (26 + 2 * s)) (26 + 2 * s) n1 (nI (c + 1)) (nI (3 * (c + 1))) q10.2)))))) := by
        show F9_addEvents_p4 _ _ _ _ _ _ = _
        unfold F9_addEvents_p4 F9_addEvents_b70
        rw [f (26 + 2 * s) (by omega), k3, za2, nI_1, nI_1, za3, if_neg (nI_ge (by omega) (by omega)), ckI (show 3 * c < 60 by omega) (by decide), ckI (show 3 * c + 1 < 60 by omega) (by decide), ckI (show 3 * c + 2 < 60 by omega) (by decide), nI_clamp (show 3 * c < 2 ^ 31 by omega), nI_clamp (show 3 * c + 1 < 2 ^ 31 by omega), nI_clamp (show 3 * c + 2 < 2 ^ 31 by omega), it _ (by omega), it _ (by omega), it _ (by omega)]
        rfl
      have hc10 : F10_read_h29 (nI s) (n2 + 1) (nI c) 1 X = ((F10_event (X 3 (60 * s + 3 * c)) (X 3 (60 * s + (3 * c + 1))) (X 3 (60 * s + (3 * c + 2))) X).bind (fun q13 => (if q13.1 < (0 : Int32) then F10_read_h29 (nI s) n2 (nI c + 0) 0 q13.2 else F10_read_h29 (nI s) n2 (nI (c + 1)) 1 q13.2))) := by
        show F10_read_p29 _ _ _ _ _ = _
        unfold F10_read_p29 F10_read_b94 F10_read_b105
        rw [if_neg (show ¬ (1 : Int32) = 0 by decide), ckI hs (by decide), nI_clamp (show s < 2 ^ 31 by omega), g 2 (by decide) (by decide), k4, zm3, za3, if_neg (nI_nlt (by omega) (by omega)), zm60, nI_add, nI_1, za2, ckI (show 60 * s + 3 * c < 240 by omega) (by decide), ckI (show 60 * s + 3 * c + 1 < 240 by omega) (by decide), ckI (show 60 * s + 3 * c + 2 < 240 by omega) (by decide), nI_clamp (show 60 * s + 3 * c < 2 ^ 31 by omega), nI_clamp (show 60 * s + 3 * c + 1 < 2 ^ 31 by omega), nI_clamp (show 60 * s + 3 * c + 2 < 2 ^ 31 by omega)]
        simp only [show ¬ (1 : Int32) = 0 from by decide, if_true, if_false, nI_1, ← Nat.add_assoc]
      have stop : ∀ Y : Mem, F10_read_h29 (nI s) n2 (nI c + 0) 0 Y = some (nI c, Y) := fun Y => by
        obtain ⟨n3, rfl⟩ : ∃ m, n2 = m + 1 := ⟨n2 - 1, by omega⟩
        show F10_read_p29 _ _ _ _ _ = _
        unfold F10_read_p29
        rw [if_pos rfl, show (0 : Int32) = nI 0 from rfl, nI_add, Nat.add_zero]
      rw [hc9, hc10]
      rcases ev_one J (X 3 (60 * s + 3 * c)) (X 3 (60 * s + (3 * c + 1))) (X 3 (60 * s + (3 * c + 2))) with ⟨e1, e2⟩ | ⟨e1, -, e2, e3⟩ | ⟨M', X', ev', e1, e2, e3, e4, e5, -, e6, e7, e8⟩
      · rw [e1, e2, Option.bind_some, Option.bind_some, if_pos rfl]
        dsimp only
        rw [if_pos (show (-2 : Int32) < 0 by decide), stop]
        exact ⟨nI c, M, X, ev, rfl, rfl, J⟩
      · rw [e1, e3, Option.bind_some, Option.bind_some, if_neg (show ¬ (1 : Int32) = 0 by decide), e2, Option.bind_some]
        dsimp only
        rw [if_pos (show (-4 : Int32) < 0 by decide), stop, if_pos rfl]
        exact ⟨nI c, M, X, ev, rfl, rfl, J⟩
      · rw [e1, e3, Option.bind_some, Option.bind_some, if_neg (show ¬ (1 : Int32) = 0 by decide), e2, Option.bind_some]
        dsimp only
        rw [if_neg (nI_pos (show ev.2 + 1 < 2 ^ 31 by omega)), if_neg (show ¬ (1 : Int32) = 0 by decide)]
        exact ih (c + 1) n1 n2 M' X' ev' (by omega) (by omega) (by omega) (fun k hk => (e6 k hk).trans (f k hk)) (fun k a b => (e7 k a b).trans (g k a b)) e8
theorem ls_8 : LS_8 Inv := by
  rintro mc mm ⟨T, ev, dr, I⟩ v1
  unfold F9_read F10_read
  rw [f9_b, f10_isSheet, bb]
  by_cases d1 : 0 ≤ v1 ∧ v1 < 4
  · rw [if_pos d1, if_pos d1]
    obtain ⟨s, hs, rfl⟩ := i_of (b := 4) (by decide) d1
    rw [ckI hs (by decide), ckI hs (by decide), ckI hs (by decide), nI_clamp (show s < 2 ^ 31 by omega)]
    rcases f6_lost I.2.2.2.1 hs with ⟨h1, h2⟩ | ⟨fo, n, hf, hn, h1, h2, k1, k2, k3, k4, k5⟩
    · rw [h1, Option.bind_some, if_neg (show ¬ (1 : Int32) = 0 by decide), if_neg h2, fnd9, fnd10]
      exact ⟨_, _, _, rfl, rfl, T, ev, dr, I.fnd 1⟩
    · rw [h1, Option.bind_some, if_pos rfl, if_pos h2]
      have hF := FU_lt (show 50 < 100000 by decide)
      obtain ⟨r, M', X', ev', q1, q2, q3⟩ := read_loop (fo := fo) hs hn k3 k4 k5 21 0 FU FU mc mm ev (by omega) (by omega) (by omega) (fun _ _ => rfl) (fun _ _ _ => rfl) I.ib
      refine ⟨r, flg M', X', ?_, q2, T, ev', dr, q3.flg⟩
      unfold F9_addEvents
      have q1' : F9_addEvents_h4 (F9_addEvents_b70 (26 + 2 * s)) (26 + 2 * s) FU 0 0 mc = some (r, M') := q1
      rw [q1']
      rfl
  · rw [if_neg d1, if_neg d1]
    exact ⟨_, mc, mm, rfl, rfl, T, ev, dr, I⟩
/-- a run of items that there is, or is not -/
theorem run_ok {mc : Mem} {s n : Nat} (hn : n ≤ 60) (k3 : mc (26 + 2 * s) 2 = nI n) (i m : Int32) : F6_hasRun (26 + 2 * s) i m mc = some (b2i (decide (¬ i < 0 ∧ ¬ m < 0 ∧ i.toInt + m.toInt ≤ (n : Int)))) := by
  unfold F6_hasRun F6_hasRun_b22
  by_cases c1 : i < 0
  · rw [if_pos c1, decide_eq_false (fun z => z.1 c1)]; rfl
  · by_cases c2 : m < 0
    · rw [if_neg c1, if_pos c2, decide_eq_false (fun z => z.2.1 c2)]; rfl
    · rw [if_neg c1, if_neg c2, k3]
      have e : (nI n - m < i) ↔ ¬ (i.toInt + m.toInt ≤ (n : Int)) := by
        have h2 : 0 ≤ m.toInt := by
          have := Int32.le_iff_toInt_le.mp ((i0le m).mp c2)
          rw [show (0 : Int32).toInt = 0 from by decide] at this; exact this
        have h3 := Int32.toInt_lt m
        rw [Int32.lt_iff_toInt_lt, Int32.toInt_sub, nI_toInt (show n < 2 ^ 31 by omega), Int.bmod_eq_of_le (by omega) (by omega)]
        omega
      by_cases c3 : nI n - m < i
      · rw [if_pos c3, decide_eq_false (fun z => (e.mp c3) z.2.2)]; rfl
      · have : i.toInt + m.toInt ≤ (n : Int) := by
          rcases Int.lt_or_le (n : Int) (i.toInt + m.toInt) with y | y
          · exact absurd (e.mpr (by omega)) c3
          · exact y
        rw [if_neg c3, decide_eq_true (⟨c1, c2, this⟩)]; rfl
theorem lg_run {n : Nat} (hn : n ≤ 60) (i m : Int32) : (0 < lg_cmp (i.toInt64 + m.toInt64) ((nI n).toInt64)) ↔ ¬ (i.toInt + m.toInt ≤ (n : Int)) := by
  rw [lgc_gt, Int64.lt_iff_toInt_lt, Int64.toInt_add, Int32.toInt_toInt64, Int32.toInt_toInt64, Int32.toInt_toInt64, nI_toInt (show n < 2 ^ 31 by omega)]
  have h1 := Int32.toInt_lt i
  have h2 := Int32.toInt_lt m
  have h3 := Int32.le_toInt i
  have h4 := Int32.le_toInt m
  rw [Int.bmod_eq_of_le (by omega) (by omega)]
  omega
theorem lg_run2 {n : Nat} (hn : n ≤ 60) (i m : Int32) : (lg_cmp (i.toInt64 + m.toInt64) ((nI n).toInt64) ≤ 0) ↔ (i.toInt + m.toInt ≤ (n : Int)) := by
  rw [lgc_le, Int64.le_iff_toInt_le, Int64.toInt_add, Int32.toInt_toInt64, Int32.toInt_toInt64, Int32.toInt_toInt64, nI_toInt (show n < 2 ^ 31 by omega)]
  have h1 := Int32.toInt_lt i
  have h2 := Int32.toInt_lt m
  have h3 := Int32.le_toInt i
  have h4 := Int32.le_toInt m
  rw [Int.bmod_eq_of_le (by omega) (by omega)]
theorem r_copyRun {mm : Mem} {s t i j n : Nat} (hs : s < 4) (ht : t < 4) (hi : i + n ≤ 60) (hj : j + n ≤ 60) : ∃ mm', F10_copy_h120 (F10_copy_b154 (nI s) (nI i) (nI t) (nI j) (nI n)) (nI s) (nI i) (nI t) (nI j) (nI n) FU 0 mm = some (1, mm') ∧ (∀ k, k ≠ 3 → k ≠ 4 → mm' k = mm k) ∧ (∀ a, a < n → mm' 3 (60 * t + j + a) = mm 3 (60 * s + i + a)) ∧ ∀ q, (q < 60 * t + j ∨ 60 * t + j + n ≤ q) → mm' 3 q = mm 3 q := by
  refine lpF (fun m (x : Int32 × Mem) => F10_copy_h120 (F10_copy_b154 (nI s) (nI i) (nI t) (nI j) (nI n)) (nI s) (nI i) (nI t) (nI j) (nI n) m x.1 x.2) (fun a x => x.1 = nI a ∧ (∀ k, k ≠ 4 → x.2 k = mm k) ∧ ∀ b, b < a → x.2 4 b = mm 3 (60 * s + i + b)) (fun r => ∃ mm', r = some (1, mm') ∧ (∀ k, k ≠ 3 → k ≠ 4 → mm' k = mm k) ∧ (∀ a, a < n → mm' 3 (60 * t + j + a) = mm 3 (60 * s + i + a)) ∧ ∀ q, (q < 60 * t + j ∨ 60 * t + j + n ≤ q) → mm' 3 q = mm 3 q) n (by omega) ?_ ?_ (0, mm) ⟨rfl, fun _ _ => rfl, fun b hb => by omega⟩
  · rintro m a ⟨x, M⟩ ha ⟨e1, f, c⟩
    dsimp only at e1 f c
    subst e1
    left
    refine ⟨(nI (a + 1), mset M 4 a (mm 3 (60 * s + i + a))), ?_, rfl, fun k hk => by dsimp only; rw [mset_n hk]; exact f k hk, fun b hb => ?_⟩
    · show F10_copy_p120 _ _ _ _ _ _ _ (nI a) M = _
      unfold F10_copy_p120
      rw [if_neg (nI_ge ha (by omega)), zm60, nI_add, nI_add, ckI (show 60 * s + i + a < 240 by omega) (by decide), ckI (show a < 60 by omega) (by decide), nI_clamp (show 60 * s + i + a < 2 ^ 31 by omega), nI_clamp (show a < 2 ^ 31 by omega), f 3 (by decide), nI_1]
    · dsimp only
      by_cases e : b = a
      · subst e; rw [mset_s]
      · rw [mset_o e]; exact c b (by omega)
  · rintro m ⟨x, M⟩ ⟨e1, f, c⟩
    dsimp only at e1 f c
    subst e1
    have head : F10_copy_h120 (F10_copy_b154 (nI s) (nI i) (nI t) (nI j) (nI n)) (nI s) (nI i) (nI t) (nI j) (nI n) (m + 1) (nI n) M = F10_copy_h157 (nI s) (nI i) (nI t) (nI j) (nI n) FU 0 M := by
      show F10_copy_p120 _ _ _ _ _ _ _ (nI n) M = _
      unfold F10_copy_p120 F10_copy_b154
      rw [if_pos (nI_le (Nat.le_refl _) (by omega))]
    dsimp only
    rw [head]
    refine lpF (fun m (x : Int32 × Mem) => F10_copy_h157 (nI s) (nI i) (nI t) (nI j) (nI n) m x.1 x.2) (fun a x => x.1 = nI a ∧ (∀ k, k ≠ 3 → x.2 k = M k) ∧ (∀ b, b < a → x.2 3 (60 * t + j + b) = mm 3 (60 * s + i + b)) ∧ ∀ q, (q < 60 * t + j ∨ 60 * t + j + n ≤ q) → x.2 3 q = mm 3 q) (fun r => ∃ mm', r = some (1, mm') ∧ (∀ k, k ≠ 3 → k ≠ 4 → mm' k = mm k) ∧ (∀ a, a < n → mm' 3 (60 * t + j + a) = mm 3 (60 * s + i + a)) ∧ ∀ q, (q < 60 * t + j ∨ 60 * t + j + n ≤ q) → mm' 3 q = mm 3 q) n (by omega) ?_ ?_ (0, M) ⟨rfl, fun _ _ => rfl, fun b hb => by omega, fun q _ => by dsimp only; rw [f 3 (by decide)]⟩
    · rintro m a ⟨x, M2⟩ ha ⟨e1, f2, c2, g2⟩
      dsimp only at e1 f2 c2 g2
      subst e1
      left
      refine ⟨(nI (a + 1), mset M2 3 (60 * t + j + a) (mm 3 (60 * s + i + a))), ?_, rfl, fun k hk => by dsimp only; rw [mset_n hk]; exact f2 k hk, fun b hb => ?_, fun q hq => by dsimp only; rw [mset_o (by omega)]; exact g2 q hq⟩
      · show F10_copy_p157 _ _ _ _ _ _ (nI a) M2 = _
        unfold F10_copy_p157
        rw [if_neg (nI_ge ha (by omega)), zm60, nI_add, nI_add, ckI (show 60 * t + j + a < 240 by omega) (by decide), ckI (show a < 60 by omega) (by decide), nI_clamp (show 60 * t + j + a < 2 ^ 31 by omega), nI_clamp (show a < 2 ^ 31 by omega), f2 4 (by decide), c a ha, nI_1]
      · dsimp only
        by_cases e : b = a
        · subst e; rw [mset_s]
        · rw [mset_o (by omega)]; exact c2 b (by omega)
    · rintro m ⟨x, M2⟩ ⟨e1, f2, c2, g2⟩
      dsimp only at e1 f2 c2 g2
      subst e1
      refine ⟨M2, ?_, fun k h1 h2 => (f2 k h1).trans (f k h2), c2, g2⟩
      show F10_copy_p157 _ _ _ _ _ _ (nI n) M2 = _
      unfold F10_copy_p157
      rw [if_pos (nI_le (Nat.le_refl _) (by omega))]
theorem ls_30 : LS_30 Inv := by
  rintro mc mm ⟨T, ev, dr, I⟩ v1 v2 v3 v4 v5
  have b9_51 : F9_copy_b51 v1 v2 v3 v4 v5 mc = some ((-10 : Int32) - 1, mset mc 0 6 1) := rfl
  have b9_99 : F9_copy_b99 v1 v2 v3 v4 v5 mc = some ((-10 : Int32) - 2, mset mc 0 6 2) := rfl
  have b10_35 : F10_copy_b35 v1 v2 v3 v4 v5 mm = some ((-10 : Int32) - 1, mset mm 0 4 1) := rfl
  have b10_111 : F10_copy_b111 v1 v2 v3 v4 v5 mm = some ((-10 : Int32) - 2, mset mm 0 4 2) := rfl
  unfold F9_copy F10_copy
  simp only [f9_b]
  rw [f10_isSheet, bb, f10_isSheet, bb, b9_51, b9_99, b10_35, b10_111]
  by_cases d1 : 0 ≤ v1 ∧ v1 < 4
  · rw [if_pos d1, if_pos d1]
    by_cases d3 : 0 ≤ v3 ∧ v3 < 4
    · rw [if_pos d3, if_pos d3]
      obtain ⟨s, hs, rfl⟩ := i_of (b := 4) (by decide) d1
      obtain ⟨t, ht, rfl⟩ := i_of (b := 4) (by decide) d3
      simp only [ckI hs (show 4 < 2 ^ 31 by decide), ckI ht (show 4 < 2 ^ 31 by decide), nI_clamp (show s < 2 ^ 31 by omega), nI_clamp (show t < 2 ^ 31 by omega)]
      rcases f6_lost I.2.2.2.1 hs with ⟨h1, h2⟩ | ⟨fo, n, hf, hn, h1, h2, k1, k2, k3, k4, k5⟩
      · have h2' : mm 1 s < 0 := by
          by_cases y : mm 1 s < 0
          · exact y
          · exact absurd ((i0le _).mp y) h2
        rw [h1, Option.bind_some, if_neg (show ¬ (1 : Int32) = 0 by decide), if_pos h2']
        exact ⟨_, _, _, rfl, rfl, T, ev, dr, I.fnd 1⟩
      · have h2' : ¬ mm 1 s < 0 := (i0le _).mpr h2
        rw [h1, Option.bind_some, if_pos rfl, if_neg h2']
        rcases f6_lost I.2.2.2.1 ht with ⟨g1, g2⟩ | ⟨fo', n', hf', hn', g1, g2, l1, l2, l3, l4, l5⟩
        · rw [g1, Option.bind_some, if_neg (show ¬ (1 : Int32) = 0 by decide), if_neg g2]
          exact ⟨_, _, _, rfl, rfl, T, ev, dr, I.fnd 1⟩
        · rw [g1, Option.bind_some, if_pos rfl, if_pos g2, k1, l1, k2, l2]
          by_cases c : nI fo = nI fo'
          · rw [if_pos c, if_pos c, run_ok hn k3, run_ok hn' l3, Option.bind_some, Option.bind_some, k4, l4]
            have e1 := lg_run hn v2 v5
            have e2 := lg_run2 hn' v4 v5
            by_cases a1 : v2 < 0
            · rw [if_pos a1, decide_eq_false (fun z => z.1 a1), if_pos (show b2i false = 0 from rfl)]
              exact ⟨_, _, _, rfl, rfl, T, ev, dr, I.fnd 2⟩
            · rw [if_neg a1]
              by_cases a2 : v4 < 0
              · rw [if_pos a2, decide_eq_false (show ¬ (¬ v4 < 0 ∧ ¬ v5 < 0 ∧ v4.toInt + v5.toInt ≤ (n' : Int)) from fun z => z.1 a2), if_pos (show b2i false = 0 from rfl)]
                refine ⟨(-10 : Int32) - 2, mset mc 0 6 2, mset mm 0 4 2, ?_, rfl, T, ev, dr, I.fnd 2⟩
                split <;> rfl
              · rw [if_neg a2]
                by_cases a3 : v5 < 0
                · rw [if_pos a3, decide_eq_false (show ¬ (¬ v2 < 0 ∧ ¬ v5 < 0 ∧ v2.toInt + v5.toInt ≤ (n : Int)) from fun z => z.2.1 a3), if_pos (show b2i false = 0 from rfl)]
                  exact ⟨_, _, _, rfl, rfl, T, ev, dr, I.fnd 2⟩
                · rw [if_neg a3]
                  by_cases r1 : v2.toInt + v5.toInt ≤ (n : Int)
                  · rw [decide_eq_true (show ¬ v2 < 0 ∧ ¬ v5 < 0 ∧ v2.toInt + v5.toInt ≤ (n : Int) from ⟨a1, a3, r1⟩), if_neg (show ¬ b2i true = 0 by decide), if_neg (fun z => e1.mp z r1)]
                    by_cases r2 : v4.toInt + v5.toInt ≤ (n' : Int)
                    · rw [decide_eq_true (show ¬ v4 < 0 ∧ ¬ v5 < 0 ∧ v4.toInt + v5.toInt ≤ (n' : Int) from ⟨a2, a3, r2⟩), if_neg (show ¬ b2i true = 0 by decide), if_pos (e2.mpr r2)]
                      obtain ⟨i, hi, rfl⟩ := nI_of a1
                      obtain ⟨j, hj, rfl⟩ := nI_of a2
                      obtain ⟨m, hm, rfl⟩ := nI_of a3
                      rw [nI_toInt hi, nI_toInt hm] at r1
                      rw [nI_toInt hj, nI_toInt hm] at r2
                      obtain ⟨mm', p1, p2, p3, p4⟩ := r_copyRun (mm := mm) hs ht (show i + m ≤ 60 by omega) (show j + m ≤ 60 by omega)
                      have hcp : cpk (nI i) (nI j) (nI m) 60 60 (some ((1 : Int32), mcpy mc (26 + 2 * s + 1) i (26 + 2 * t + 1) j m)) = some (1, mcpy mc (26 + 2 * s + 1) i (26 + 2 * t + 1) j m) := by
                        unfold cpk
                        rw [nI_clamp hi, nI_clamp hj, nI_clamp hm]
                        exact if_pos ⟨a1, a2, a3, by omega, by omega⟩
                      refine ⟨1, mcpy mc (26 + 2 * s + 1) i (26 + 2 * t + 1) j m, mm', ?_, p1, T, ev, dr, I.sh (fun k hk => if_neg (by omega)) (fun k hk => p2 k (by omega) (by omega)) (I.2.2.2.1.one ht (fun k _ h => if_neg (by omega)) (fun q _ => ⟨by rw [p2 1 (by decide) (by decide)], by rw [p2 2 (by decide) (by decide)]⟩) (fun q hq => p4 q (by omega)) ⟨some fo', n', hn', fun x hx => by cases hx; exact hf', ?_, ?_, fun _ => ⟨?_, ?_, fun q hq => ?_⟩⟩)⟩
                      · rw [nI_clamp hi, nI_clamp hj, nI_clamp hm]; exact hcp
                      · rw [show mcpy mc (26 + 2 * s + 1) i (26 + 2 * t + 1) j m (26 + 2 * t) = mc (26 + 2 * t) from if_neg (by omega)]; exact l1
                      · rw [p2 1 (by decide) (by decide)]; exact l2
                      · rw [show mcpy mc (26 + 2 * s + 1) i (26 + 2 * t + 1) j m (26 + 2 * t) = mc (26 + 2 * t) from if_neg (by omega)]; exact l3
                      · rw [p2 2 (by decide) (by decide)]; exact l4
                      · rw [show mcpy mc (26 + 2 * s + 1) i (26 + 2 * t + 1) j m (27 + 2 * t) = va_cpy (mc (26 + 2 * s + 1)) (mc (26 + 2 * t + 1)) i j m from if_pos (by omega)]
                        by_cases y : j ≤ q ∧ q < j + m
                        · rw [pk_cpy_in y.1 y.2, show 60 * t + q = 60 * t + j + (q - j) by omega, p3 _ (by omega), show 60 * s + i + (q - j) = 60 * s + (i + (q - j)) by omega, show 26 + 2 * s + 1 = 27 + 2 * s by omega]
                          exact k5 _ (by omega)
                        · rw [pk_cpy_out (by omega), p4 _ (by omega), show 26 + 2 * t + 1 = 27 + 2 * t by omega]
                          exact l5 q hq
                    · rw [decide_eq_false (show ¬ (¬ v4 < 0 ∧ ¬ v5 < 0 ∧ v4.toInt + v5.toInt ≤ (n' : Int)) from fun z => r2 z.2.2), if_pos (show b2i false = 0 from rfl), if_neg (fun z => r2 (e2.mp z))]
                      exact ⟨_, _, _, rfl, rfl, T, ev, dr, I.fnd 2⟩
                  · rw [decide_eq_false (show ¬ (¬ v2 < 0 ∧ ¬ v5 < 0 ∧ v2.toInt + v5.toInt ≤ (n : Int)) from fun z => r1 z.2.2), if_pos (show b2i false = 0 from rfl), if_pos (e1.mpr r1)]
                    exact ⟨_, _, _, rfl, rfl, T, ev, dr, I.fnd 2⟩
          · rw [if_neg c, if_neg c, fnd9, fnd10]
            exact ⟨_, _, _, rfl, rfl, T, ev, dr, I.fnd 4⟩
    · rw [if_neg d3, if_neg d3]
      exact ⟨_, mc, mm, rfl, rfl, T, ev, dr, I⟩
  · rw [if_neg d1, if_neg d1]
    exact ⟨_, mc, mm, rfl, rfl, T, ev, dr, I⟩
