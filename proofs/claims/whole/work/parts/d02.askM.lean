/-! the questions, both sides -/
theorem aHears_eq {K : KX} {k : Nat} (hk : k < K.1.1) (h8 : K.1.1 ≤ 8) : aHears K (nI k) = nI (bitsN (fun p => hrS K.1 (H0 K) (K.2.2.1.2.1 p) k) K.2.2.1.1) := by
  unfold aHears
  rw [if_pos (of_i hk (by omega)), nI_clamp (show k < 2 ^ 31 by omega)]
theorem ls_10 : LS_10 Inv := by
  rintro mc mm ⟨T, ev, dr, I⟩ v
  obtain ⟨mc', c1, c2, c3⟩ := c_hears I.2.1 v
  obtain ⟨M, f1, f2, B, L⟩ := I.find
  refine ⟨_, mc', M, c1, ?_, T, ev, dr, I.q c2 c3 f2⟩
  have h8 := B.w8
  unfold F10_hears
  rw [f1, Option.bind_some, f10_isWellX B.1, bb]
  by_cases c : 0 ≤ v ∧ v < nI (KT T ev dr).1.1
  · rw [if_pos c]
    obtain ⟨k, hk, rfl⟩ := i_of (by omega) c
    rw [r_hears L (by omega), aHears_eq hk h8]
    rfl
  · unfold aHears
    rw [if_neg c, if_neg c]
theorem ls_11 : LS_11 Inv := by
  rintro mc mm ⟨T, ev, dr, I⟩ v
  obtain ⟨mc', c1, c2, c3⟩ := c_soon I.2.1 v
  obtain ⟨M, f1, f2, B, L⟩ := I.find
  refine ⟨_, mc', M, c1, ?_, T, ev, dr, I.q c2 c3 f2⟩
  have h8 := B.w8
  unfold F10_soon aSoon
  rw [f1, Option.bind_some, f10_isWellX B.1, bb]
  by_cases c : 0 ≤ v ∧ v < nI (KT T ev dr).1.1
  · rw [if_pos c, if_pos c]
    obtain ⟨k, hk, rfl⟩ := i_of (by omega) c
    rw [r_soon L (by omega), nI_clamp (show k < 2 ^ 31 by omega)]
    rfl
  · rw [if_neg c, if_neg c]
theorem ls_12 : LS_12 Inv := by
  rintro mc mm ⟨T, ev, dr, I⟩
  obtain ⟨mc', c1, c2, c3, -⟩ := c_gone I.2.1
  obtain ⟨M, f1, f2, B, L⟩ := I.find
  refine ⟨_, mc', M, c1, ?_, T, ev, dr, I.q c2 c3.ci f2⟩
  unfold F10_gone
  rw [f1, Option.bind_some, r_gone L]
  rfl
theorem ls_13 : LS_13 Inv := by
  rintro mc mm ⟨T, ev, dr, I⟩ v
  obtain ⟨mc', c1, c2, c3⟩ := c_babel I.2.1 v
  obtain ⟨M, f1, f2, B, L⟩ := I.find
  refine ⟨_, mc', M, c1, ?_, T, ev, dr, I.q c2 c3 f2⟩
  unfold F10_babel
  rw [f1, Option.bind_some, f10_isTwo, bb]
  by_cases c : 0 ≤ v ∧ v < 2
  · rw [if_pos c, if_pos c, r_babel L B.1.2.1]
    rfl
  · rw [if_neg c, if_neg c]
theorem ls_9 : LS_9 Inv := by
  rintro mc mm ⟨T, ev, dr, I⟩ v1 v2 v3
  obtain ⟨mc', c1, c2, c3⟩ := c_at I.2.1 v1 v2 v3
  obtain ⟨M, f1, f2, B, L⟩ := I.find
  refine ⟨_, mc', M, c1, ?_, T, ev, dr, I.q c2 c3 f2⟩
  have n8 := B.n8
  unfold F10_at F10_at_b41 aAt
  rw [f1, Option.bind_some, f10_isHour, bb, f10_isSayingX B, bb, f10_b 5 (show (4 : Int64).toInt + 1 = (5 : Int32).toInt by decide)]
  by_cases d1 : 0 ≤ v1 ∧ v1 < 40
  · rw [if_pos d1, if_pos d1]
    by_cases d2 : 0 ≤ v2 ∧ v2 < nI (KT T ev dr).2.2.1.1
    · rw [if_pos d2, if_pos d2]
      by_cases d3 : 0 ≤ v3 ∧ v3 < 5
      · rw [if_pos d3, if_pos d3]
        obtain ⟨h, hh, rfl⟩ := i_of (b := 40) (by decide) d1
        obtain ⟨p, hp, rfl⟩ := i_of (by omega) d2
        rw [r_atOf L B.2.2.2.1.2.2 hh hp, nI_clamp (show h < 2 ^ 31 by omega), nI_clamp (show p < 2 ^ 31 by omega)]
        rfl
      · rw [if_neg d3, if_neg d3]
    · rw [if_neg d2, if_neg d2]
  · rw [if_neg d1, if_neg d1]
theorem ls_14 : LS_14 Inv := by
  rintro mc mm ⟨T, ev, dr, I⟩ v1 v2 v3
  obtain ⟨mc', c1, c2, c3⟩ := c_tell I.2.1 v1 v2 v3
  obtain ⟨M, f1, f2, B, L⟩ := I.find
  have n8 := B.n8
  suffices h : ∃ mm', F10_tell v1 v2 v3 mm = some (aTell (KT T ev dr) v1 v2 v3, mm') ∧ FF mm mm' by
    obtain ⟨mm', q1, q2⟩ := h
    exact ⟨_, mc', mm', c1, q1, T, ev, dr, I.q c2 c3 q2⟩
  unfold F10_tell F10_tell_b36 aTell
  rw [f1, Option.bind_some, f10_isSayingX B, bb, f10_isEight, bb, f10_isTwo, bb]
  by_cases d1 : 0 ≤ v1 ∧ v1 < nI (KT T ev dr).2.2.1.1
  · rw [if_pos d1, if_pos d1]
    by_cases d2 : 0 ≤ v2 ∧ v2 < 8
    · rw [if_pos d2, if_pos d2]
      by_cases d3 : 0 ≤ v3 ∧ v3 < 2
      · rw [if_pos d3, if_pos d3]
        obtain ⟨p, hp, rfl⟩ := i_of (by omega) d1
        obtain ⟨k, hk, rfl⟩ := i_of (b := 8) (by decide) d2
        obtain ⟨mm', q1, q2⟩ := r_tellOf B hp hk v3
        rw [q1, nI_clamp (show p < 2 ^ 31 by omega), nI_clamp (show k < 2 ^ 31 by omega)]
        exact ⟨mm', rfl, f2.trans (FF.of q2)⟩
      · rw [if_neg d3, if_neg d3]; exact ⟨M, rfl, f2⟩
    · rw [if_neg d2, if_neg d2]; exact ⟨M, rfl, f2⟩
  · rw [if_neg d1, if_neg d1]; exact ⟨M, rfl, f2⟩
theorem ls_15 : LS_15 Inv := by
  rintro mc mm ⟨T, ev, dr, I⟩ v1 v2
  obtain ⟨mc', c1, c2, c3⟩ := c_toss I.2.1 v1 v2
  obtain ⟨M, f1, f2, B, L⟩ := I.find
  suffices h : ∃ mm', F10_toss v1 v2 mm = some (aTossV (KT T ev dr) v1 v2, mm') ∧ FF mm mm' by
    obtain ⟨mm', q1, q2⟩ := h
    exact ⟨_, mc', mm', c1, q1, T, ev, dr, I.q c2 c3 q2⟩
  unfold F10_toss F10_toss_b32 aTossV
  rw [f1, Option.bind_some, f10_isEight, bb, f10_b 3 (show (2 : Int64).toInt + 1 = (3 : Int32).toInt by decide)]
  by_cases d1 : 0 ≤ v1 ∧ v1 < 8
  · rw [if_pos d1, if_pos d1]
    by_cases d2 : 0 ≤ v2 ∧ v2 < 3
    · rw [if_pos d2, if_pos d2]
      obtain ⟨t, ht, rfl⟩ := i_of (b := 8) (by decide) d1
      obtain ⟨mm', q1, q2⟩ := r_tossOf B ht v2
      rw [q1, nI_clamp (show t < 2 ^ 31 by omega)]
      exact ⟨mm', rfl, f2.trans (FF.of q2)⟩
    · rw [if_neg d2, if_neg d2]; exact ⟨M, rfl, f2⟩
  · rw [if_neg d1, if_neg d1]; exact ⟨M, rfl, f2⟩
theorem in_m1 (i : Int32) : ((-1 : Int64) ≤ i.toInt64 ∧ i.toInt64 ≤ 1) = (i = -1 ∨ (0 ≤ i ∧ i < 2)) := by
  rw [Int64.le_iff_toInt_le, Int64.le_iff_toInt_le, Int32.le_iff_toInt_le, Int32.lt_iff_toInt_lt, Int32.toInt_toInt64, ← Int32.toInt_inj]
  have : (-1 : Int64).toInt = -1 := by decide
  have : (1 : Int64).toInt = 1 := by decide
  have : (-1 : Int32).toInt = -1 := by decide
  have : (0 : Int32).toInt = 0 := by decide
  have : (2 : Int32).toInt = 2 := by decide
  apply propext
  omega
theorem ls_16 : LS_16 Inv := by
  rintro mc mm ⟨T, ev, dr, I⟩ v i
  obtain ⟨mc', c1, c2, c3⟩ := c_open I.2.1 v i
  obtain ⟨M, f1, f2, B, L⟩ := I.find
  suffices h : ∃ mm', F10_open v i mm = some (aOpen (KT T ev dr) v i, mm') ∧ FF mm mm' by
    obtain ⟨mm', q1, q2⟩ := h
    exact ⟨_, mc', mm', c1, q1, T, ev, dr, I.q c2 c3 q2⟩
  unfold F10_open F10_open_b32 aOpen
  rw [f1, Option.bind_some, f10_isEight, bb, f10_in, bb]
  simp only [in_m1]
  by_cases d1 : 0 ≤ v ∧ v < 8
  · rw [if_pos d1, if_pos d1]
    by_cases d2 : i = -1 ∨ (0 ≤ i ∧ i < 2)
    · rw [if_pos d2, if_pos d2]
      obtain ⟨t, ht, rfl⟩ := i_of (b := 8) (by decide) d1
      obtain ⟨mm', q1, q2⟩ := r_openOf B ht i
      rw [q1, nI_clamp (show t < 2 ^ 31 by omega)]
      exact ⟨mm', rfl, f2.trans (FF.of q2)⟩
    · rw [if_neg d2, if_neg d2]; exact ⟨M, rfl, f2⟩
  · rw [if_neg d1, if_neg d1]; exact ⟨M, rfl, f2⟩
theorem ls_17 : LS_17 Inv := by
  rintro mc mm ⟨T, ev, dr, I⟩ v
  obtain ⟨mc', c1, c2, c3⟩ := c_iron I.2.1 v
  obtain ⟨M, f1, f2, B, L⟩ := I.find
  suffices h : ∃ mm', F10_iron v mm = some (aIron (KT T ev dr) v, mm') ∧ FF mm mm' by
    obtain ⟨mm', q1, q2⟩ := h
    exact ⟨_, mc', mm', c1, q1, T, ev, dr, I.q c2 c3 q2⟩
  unfold F10_iron aIron
  rw [f1, Option.bind_some, f10_isTwo, bb]
  by_cases d1 : 0 ≤ v ∧ v < 2
  · rw [if_pos d1, if_pos d1]
    obtain ⟨mm', q1, q2⟩ := r_ironOf B v
    rw [q1]
    exact ⟨mm', rfl, f2.trans (FF.of q2)⟩
  · rw [if_neg d1, if_neg d1]; exact ⟨M, rfl, f2⟩
theorem ls_20 : LS_20 Inv := by
  rintro mc mm ⟨T, ev, dr, I⟩
  obtain ⟨mc', c1, c2, c3⟩ := c_never I.2.1
  obtain ⟨M, f1, f2, B, L⟩ := I.find
  obtain ⟨mm', q1, q2⟩ := r_neverNow B
  refine ⟨_, mc', mm', c1, ?_, T, ev, dr, I.q c2 c3 (f2.trans (FF.of q2))⟩
  unfold F10_never
  rw [f1, Option.bind_some, q1]
  rfl
theorem ls_21 : LS_21 Inv := by
  rintro mc mm ⟨T, ev, dr, I⟩ v1 v2
  obtain ⟨mc', c1, c2, c3⟩ := c_stone I.2.1 v1 v2
  obtain ⟨M, f1, f2, B, L⟩ := I.find
  have h8 := B.w8
  suffices h : ∃ mm', F10_stone v1 v2 mm = some (aStone (KT T ev dr) v1 v2, mm') ∧ FF mm mm' by
    obtain ⟨mm', q1, q2⟩ := h
    exact ⟨_, mc', mm', c1, q1, T, ev, dr, I.q c2 c3 q2⟩
  unfold F10_stone F10_stone_b28 aStone
  rw [f1, Option.bind_some, f10_isWellX B.1, bb, f10_isTwo, bb]
  by_cases d1 : 0 ≤ v1 ∧ v1 < nI (KT T ev dr).1.1
  · rw [if_pos d1, if_pos d1]
    by_cases d2 : 0 ≤ v2 ∧ v2 < 2
    · rw [if_pos d2, if_pos d2]
      obtain ⟨k, hk, rfl⟩ := i_of (by omega) d1
      rw [nI_clamp (show k < 2 ^ 31 by omega)]
      unfold F10_stoneOf aStoneOf
      by_cases z : v2 = 0
      · rw [if_pos z, if_pos z]
        obtain ⟨mm', q1, q2⟩ := r_stones B hk
        rw [q1]
        exact ⟨mm', rfl, f2.trans (FF.of q2)⟩
      · rw [if_neg z, if_neg z]
        obtain ⟨mm', q1, q2, -⟩ := r_stood B hk
        rw [q1]
        exact ⟨mm', rfl, f2.trans (FF.of q2)⟩
    · rw [if_neg d2, if_neg d2]; exact ⟨M, rfl, f2⟩
  · rw [if_neg d1, if_neg d1]; exact ⟨M, rfl, f2⟩
theorem ls_22 : LS_22 Inv := by
  rintro mc mm ⟨T, ev, dr, I⟩ v
  obtain ⟨mc', c1, c2, c3⟩ := c_bucket I.2.1 v
  obtain ⟨M, f1, f2, B, L⟩ := I.find
  have n8 := B.n8
  suffices h : ∃ mm', F10_bucket v mm = some (aBucket (KT T ev dr) v, mm') ∧ FF mm mm' by
    obtain ⟨mm', q1, q2⟩ := h
    exact ⟨_, mc', mm', c1, q1, T, ev, dr, I.q c2 c3 q2⟩
  unfold F10_bucket aBucket
  rw [f1, Option.bind_some, f10_isSayingX B, bb]
  by_cases d1 : 0 ≤ v ∧ v < nI (KT T ev dr).2.2.1.1
  · rw [if_pos d1, if_pos d1]
    obtain ⟨p, hp, rfl⟩ := i_of (by omega) d1
    obtain ⟨mm', q1, q2⟩ := r_bucketOf B hp
    rw [q1, nI_clamp (show p < 2 ^ 31 by omega)]
    exact ⟨mm', rfl, f2.trans (FF.of q2)⟩
  · rw [if_neg d1, if_neg d1]; exact ⟨M, rfl, f2⟩
theorem ls_23 : LS_23 Inv := by
  rintro mc mm ⟨T, ev, dr, I⟩ v
  obtain ⟨mc', c1, c2, c3⟩ := c_ask I.2.1 v
  obtain ⟨M, f1, f2, B, L⟩ := I.find
  have h8 := B.w8
  suffices h : ∃ mm', F10_ask v mm = some (aAsk (KT T ev dr) v, mm') ∧ FF mm mm' by
    obtain ⟨mm', q1, q2⟩ := h
    exact ⟨_, mc', mm', c1, q1, T, ev, dr, I.q c2 c3 q2⟩
  unfold F10_ask aAsk
  rw [f1, Option.bind_some, f10_isWellX B.1, bb]
  by_cases d1 : 0 ≤ v ∧ v < nI (KT T ev dr).1.1
  · rw [if_pos d1, if_pos d1]
    obtain ⟨k, hk, rfl⟩ := i_of (by omega) d1
    obtain ⟨mm', q1, q2⟩ := r_askOf B hk
    refine ⟨mm', ?_, f2.trans (FF.of q2)⟩
    rw [q1, nI_clamp (show k < 2 ^ 31 by omega), Option.bind_some]
  · rw [if_neg d1, if_neg d1]; exact ⟨M, rfl, f2⟩
theorem ls_24 : LS_24 Inv := by
  rintro mc mm ⟨T, ev, dr, I⟩ v1 v2 v3 v4
  obtain ⟨mc', c1, c2, c3⟩ := c_chance I.2.1 v1 v2 v3 v4
  obtain ⟨M, f1, f2, B, L⟩ := I.find
  have n8 := B.n8
  have no : ∀ X : Mem, F10_chance_b51 v1 v2 v3 v4 X = some (-9223372036854775806, X) := fun X => rfl
  suffices h : ∃ mm', F10_chance v1 v2 v3 v4 mm = some (aChance (KT T ev dr) v1 v2 v3 v4, mm') ∧ FF mm mm' by
    obtain ⟨mm', q1, q2⟩ := h
    exact ⟨_, mc', mm', c1, q1, T, ev, dr, I.q c2 c3 q2⟩
  unfold F10_chance aChance
  rw [f1, Option.bind_some, f10_b 17 (show (16 : Int64).toInt + 1 = (17 : Int32).toInt by decide), f10_isSayingX B, bb, f10_isEight, bb, f10_isTwo, bb, no]
  by_cases d1 : 0 ≤ v1 ∧ v1 < 17
  · rw [if_pos d1, if_pos d1]
    by_cases d2 : 0 ≤ v2 ∧ v2 < nI (KT T ev dr).2.2.1.1
    · rw [if_pos d2, if_pos d2]
      by_cases d3 : 0 ≤ v3 ∧ v3 < 8
      · rw [if_pos d3, if_pos d3]
        by_cases d4 : 0 ≤ v4 ∧ v4 < 2
        · rw [if_pos d4, if_pos d4]
          obtain ⟨c, hc, rfl⟩ := i_of (b := 17) (by decide) d1
          obtain ⟨p, hp, rfl⟩ := i_of (by omega) d2
          obtain ⟨t, ht, rfl⟩ := i_of (b := 8) (by decide) d3
          obtain ⟨mm', q1, q2⟩ := r_chanceOf B (show c ≤ 16 by omega) hp ht v4
          rw [q1, nI_clamp (show c < 2 ^ 31 by omega), nI_clamp (show p < 2 ^ 31 by omega), nI_clamp (show t < 2 ^ 31 by omega)]
          exact ⟨mm', rfl, f2.trans (FF.of q2)⟩
        · rw [if_neg d4, if_neg d4]; exact ⟨M, rfl, f2⟩
      · rw [if_neg d3, if_neg d3]; exact ⟨M, rfl, f2⟩
    · rw [if_neg d2, if_neg d2]; exact ⟨M, rfl, f2⟩
  · rw [if_neg d1, if_neg d1]; exact ⟨M, rfl, f2⟩
theorem ls_25 : LS_25 Inv := by
  rintro mc mm ⟨T, ev, dr, I⟩ s v2 v3
  obtain ⟨mc', c1, c2, c3⟩ := c_day I.2.1 s v2 v3
  obtain ⟨M, f1, f2, B, L⟩ := I.find
  suffices h : ∃ mm', F10_day s v2 v3 mm = some (aDay (KT T ev dr) s v2 v3, mm') ∧ FF mm mm' by
    obtain ⟨mm', q1, q2⟩ := h
    exact ⟨_, mc', mm', c1, q1, T, ev, dr, I.q c2 c3 q2⟩
  unfold F10_day F10_day_b33 aDay
  rw [f1, Option.bind_some, f10_b 9 (show (8 : Int64).toInt + 1 = (9 : Int32).toInt by decide), f10_isTwo, bb]
  by_cases d1 : 0 ≤ v2 ∧ v2 < 9
  · rw [if_pos d1, if_pos d1]
    by_cases d2 : 0 ≤ v3 ∧ v3 < 2
    · rw [if_pos d2, if_pos d2]
      obtain ⟨n, hn, rfl⟩ := i_of (b := 9) (by decide) d1
      obtain ⟨mm', q1, q2⟩ := r_dayOf B s (show n ≤ 8 by omega) v3
      rw [q1, nI_clamp (show n < 2 ^ 31 by omega)]
      exact ⟨mm', rfl, f2.trans (FF.of q2)⟩
    · rw [if_neg d2, if_neg d2]; exact ⟨M, rfl, f2⟩
  · rw [if_neg d1, if_neg d1]; exact ⟨M, rfl, f2⟩
theorem m_count {mc mm : Mem} {T : TX} {ev : EV × Nat} {dr : Nat × EV} (I : IV mc mm T ev dr) (v : Int32) : ∃ mm', F10_count v mm = some (aCount (KT T ev dr) (mc 2 1) (mc 4 1) (mc 0 6) v, mm') ∧ FF mm mm' := by
  obtain ⟨M, f1, f2, B, L⟩ := I.find
  have n8 := B.n8
  obtain ⟨⟨⟨a1, -, -⟩, a3, -⟩, -, r, -, l⟩ := I
  refine ⟨M, ?_, f2⟩
  unfold F10_count aCount
  rw [f1, Option.bind_some]
  by_cases d0 : v = 0
  · rw [if_pos d0, if_pos d0, B.1.2.1]
  rw [if_neg d0, if_neg d0]
  by_cases d1 : v = 1
  · rw [if_pos d1, if_pos d1, B.2.2.2.1.1.2.1]
  rw [if_neg d1, if_neg d1]
  by_cases d2 : v = 2
  · rw [if_pos d2, if_pos d2]
    subst d2
    show some (M 6 0, M) = _
    rw [f2.1 6 (by omega), r.1.1.1, a1.1]
  rw [if_neg d2, if_neg d2]
  by_cases d3 : v = 3
  · rw [if_pos d3, if_pos d3]
    subst d3
    show some (M 6 1, M) = _
    rw [f2.1 6 (by omega), r.1.2.1, a3.1]
  rw [if_neg d3, if_neg d3]
  by_cases d4 : v = 4
  · rw [if_pos d4, if_pos d4, B.2.1.2.1]
  rw [if_neg d4, if_neg d4]
  by_cases d5 : v = 5
  · rw [if_pos d5, if_pos d5, r_gone L, Option.bind_some, bits_ones _ n8]
    rfl
  rw [if_neg d5, if_neg d5]
  by_cases d6 : v = 6
  · rw [if_pos d6, if_pos d6, r_all L]
    rfl
  rw [if_neg d6, if_neg d6]
  by_cases d7 : v = 7
  · rw [if_pos d7, if_pos d7, B.2.2.2.2.2.1]
  rw [if_neg d7, if_neg d7]
  by_cases d8 : v = 8
  · rw [if_pos d8, if_pos d8, f2.2 4 (by decide) (by decide) (by decide) (by decide), l]
  rw [if_neg d8, if_neg d8]
theorem ls_32 : LS_32 Inv := by
  rintro mc mm ⟨T, ev, dr, I⟩ v
  obtain ⟨mc', c1, c2, c3⟩ := c_count I.2.1 v
  obtain ⟨mm', q1, q2⟩ := m_count I v
  exact ⟨_, mc', mm', c1, q1, T, ev, dr, I.q c2 c3 q2⟩
theorem m_reads0 {mc mm : Mem} {T : TX} {ev : EV × Nat} {dr : Nat × EV} (I : IV mc mm T ev dr) : ∃ mm', F10_readsWells mm = some (mc 2 2, mm') ∧ FF mm mm' ∧ MW mm' (KT T ev dr).1.1 (KT T ev dr).1.2.1 (KT T ev dr).1.2.2 := by
  obtain ⟨⟨⟨a1, a2, a5⟩, -⟩, -, r, -⟩ := I
  obtain ⟨M1, p1, p2, p3, p4⟩ := r_readsWells r.1.1.1 r.1.1.2 (fun i hi => (a1.2 i hi).2) a2
  exact ⟨M1, by rw [a5]; exact p1, ⟨fun k hk => p2 k (by omega) (by omega), fun i h _ _ _ => p3 i h⟩, p4⟩
theorem m_reads1 {mc mm : Mem} {T : TX} {ev : EV × Nat} {dr : Nat × EV} (I : IV mc mm T ev dr) : ∃ mm', F10_readsSayings mm = some (mc 4 2, mm') ∧ FF mm mm' ∧ MSL mm' (KT T ev dr).2.2.1.1 (KT T ev dr).2.2.1.2.1 (KT T ev dr).2.2.1.2.2 := by
  obtain ⟨⟨-, a3, a4, a6⟩, -, r, -⟩ := I
  obtain ⟨M1, p1, p2, p3, p4⟩ := r_readsSays r.1.2.1 r.1.2.2 (fun i hi => (a3.2 i hi).2) a4
  exact ⟨M1, by rw [a6]; exact p1, ⟨fun k hk => p2 k (by omega) (by omega), fun i _ h _ _ => p3 i h⟩, p4⟩
theorem ls_3 : LS_3 Inv := by
  rintro mc mm ⟨T, ev, dr, I⟩ v
  unfold F9_fault F10_fault F10_readsText
  rw [f9_b, f10_isTwo, bb]
  by_cases d : 0 ≤ v ∧ v < 2
  · rw [if_pos d, if_pos d]
    obtain ⟨t, ht, rfl⟩ := i_of (b := 2) (by decide) d
    rw [ckI ht (by decide), nI_clamp (show t < 2 ^ 31 by omega)]
    rcases (show t = 0 ∨ t = 1 by omega) with rfl | rfl
    · obtain ⟨M, q1, q2, -⟩ := m_reads0 I
      rw [if_pos (show nI 0 = 0 from rfl), q1]
      exact ⟨_, M, rfl, rfl, T, ev, dr, I.q (FC.refl mc) I.2.1 q2⟩
    · obtain ⟨M, q1, q2, -⟩ := m_reads1 I
      rw [if_neg (show ¬ nI 1 = 0 by decide), q1]
      exact ⟨_, M, rfl, rfl, T, ev, dr, I.q (FC.refl mc) I.2.1 q2⟩
  · rw [if_neg d, if_neg d]
    exact ⟨_, mm, rfl, rfl, T, ev, dr, I⟩
theorem ls_4 : LS_4 Inv := by
  rintro mc mm ⟨T, ev, dr, I⟩ v1 v2
  obtain ⟨M, q1, q2, q3⟩ := m_reads0 I
  refine ⟨_, M, c_well I.2.1.1 v1 v2, ?_, T, ev, dr, I.q (FC.refl mc) I.2.1 q2⟩
  have h8 := q3.1
  unfold F10_well F10_well_b34 aWell
  rw [q1, Option.bind_some]
  dsimp only
  rw [f10_isWellX q3, bb, f10_b 4 (show (3 : Int64).toInt + 1 = (4 : Int32).toInt by decide)]
  by_cases d1 : 0 ≤ v1 ∧ v1 < nI (KT T ev dr).1.1
  · rw [if_pos d1, if_pos d1]
    by_cases d2 : 0 ≤ v2 ∧ v2 < 4
    · rw [if_pos d2, if_pos d2]
      obtain ⟨k, hk, rfl⟩ := i_of (by omega) d1
      obtain ⟨j, hj, rfl⟩ := i_of (b := 4) (by decide) d2
      rw [r_wellBy (W := (KT T ev dr).1) q3 hk hj, nI_clamp (show k < 2 ^ 31 by omega)]
      rfl
    · rw [if_neg d2, if_neg d2]
  · rw [if_neg d1, if_neg d1]
theorem ls_5 : LS_5 Inv := by
  rintro mc mm ⟨T, ev, dr, I⟩ v1 v2
  obtain ⟨M, q1, q2, q3⟩ := m_reads1 I
  refine ⟨_, M, c_say I.2.1.1 v1 v2, ?_, T, ev, dr, I.q (FC.refl mc) I.2.1 q2⟩
  have n8 := q3.1.1
  unfold F10_saying F10_saying_b34 aSay
  rw [q1, Option.bind_some]
  dsimp only
  have isS : ∀ x, F10_isSaying x M = some (if 0 ≤ x ∧ x < nI (KT T ev dr).2.2.1.1 then 1 else 0) := by
    intro x
    unfold F10_isSaying
    rw [f10_in, q3.1.2.1]
    have e : ((0 : Int64) ≤ x.toInt64 ∧ x.toInt64 ≤ (nI (KT T ev dr).2.2.1.1 - 1).toInt64) ↔ (0 ≤ x ∧ x < nI (KT T ev dr).2.2.1.1) := by
      rw [Int64.le_iff_toInt_le, Int64.le_iff_toInt_le, Int32.le_iff_toInt_le, Int32.lt_iff_toInt_lt, Int32.toInt_toInt64, Int32.toInt_toInt64, nI_toInt (show (KT T ev dr).2.2.1.1 < 2 ^ 31 by omega), show (nI (KT T ev dr).2.2.1.1 - 1).toInt = ((KT T ev dr).2.2.1.1 : Int) - 1 from pk_sub_toInt (b := 1) (by omega) (by decide)]
      have : (0 : Int64).toInt = 0 := by decide
      have : (0 : Int32).toInt = 0 := by decide
      omega
    simp only [e]
    exact bz_in bz01
  rw [isS, bb, f10_b 8 (show (7 : Int64).toInt + 1 = (8 : Int32).toInt by decide)]
  by_cases d1 : 0 ≤ v1 ∧ v1 < nI (KT T ev dr).2.2.1.1
  · rw [if_pos d1, if_pos d1]
    by_cases d2 : 0 ≤ v2 ∧ v2 < 8
    · rw [if_pos d2, if_pos d2]
      obtain ⟨p, hp, rfl⟩ := i_of (by omega) d1
      obtain ⟨j, hj, rfl⟩ := i_of (b := 8) (by decide) d2
      rw [r_sayBy q3 hp hj, nI_clamp (show p < 2 ^ 31 by omega)]
      rfl
    · rw [if_neg d2, if_neg d2]
  · rw [if_neg d1, if_neg d1]
