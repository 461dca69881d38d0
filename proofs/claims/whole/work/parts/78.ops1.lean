theorem mset_app (m : Mem) (k i : Nat) (v : Int32) (a b : Nat) : mset m k i v a b = if a = k then (if b = i then v else m a b) else m a b := by
  unfold mset
  by_cases h : a = k
  · rw [if_pos h, if_pos h]; unfold upd; subst h; rfl
  · rw [if_neg h, if_neg h]
theorem f1_add_lt {mc : Mem} {n : Nat} (h : mc 21 3 = nI n) (hn : n < 8) (a b c : Int32) : F1_add 21 a b c mc = some (1, mset (mset (mset (mset mc 22 n a) 23 n b) 24 n c) 21 3 (nI (n + 1))) := by
  have hlt : nI n < (8 : Int32) := nI_lt (b := 8) hn (by decide)
  have hc := nI_clamp (show n < 2 ^ 31 by omega)
  unfold F1_add
  simp only [lt, mset_app, h, hlt, if_true, ckI hn (by decide), hc, Nat.reduceAdd, Nat.reduceEqDiff, if_false, nI_1]
theorem f1_add_ge {mc : Mem} {n : Nat} (h : mc 21 3 = nI n) (hn : ¬ n < 8) (hn2 : n ≤ 8) (a b c : Int32) : F1_add 21 a b c mc = some (0, mc) := by
  have : n = 8 := by omega
  subst this
  unfold F1_add
  rw [h, if_neg (by decide)]
theorem f2_add_lt {mc : Mem} {o n : Nat} (ho : o = 17 ∨ o = 88) (h : mc o 3 = nI n) (hn : n < 8) (a b c : Int32) : F2_add o a b c mc = some (1, mset (mset (mset (mset mc (o + 1) n a) (o + 2) n b) (o + 3) n c) o 3 (nI (n + 1))) := by
  have hlt : nI n < (8 : Int32) := nI_lt (b := 8) hn (by decide)
  have hc := nI_clamp (show n < 2 ^ 31 by omega)
  unfold F2_add
  rcases ho with rfl | rfl <;> simp only [lt, mset_app, h, hlt, if_true, ckI hn (by decide), hc, Nat.reduceAdd, Nat.reduceEqDiff, if_false, nI_1]
theorem f2_add_ge {mc : Mem} {o n : Nat} (h : mc o 3 = nI n) (hn : ¬ n < 8) (hn2 : n ≤ 8) (a b c : Int32) : F2_add o a b c mc = some (0, mc) := by
  have : n = 8 := by omega
  subst this
  unfold F2_add
  rw [h, if_neg (by decide)]
theorem op_draw {mc mm : Mem} (h : RD mc mm) (a1 a2 a3 : Int32) : ∃ (r : Int32) (mc' mm' : Mem), F9_draw a1 a2 a3 mc = some (r, mc') ∧ F10_draw a1 a2 a3 mm = some (r, mm') ∧ RD mc' mm' ∧ (∀ k, k ≠ 21 → k ≠ 22 → k ≠ 23 → k ≠ 24 → mc' k = mc k) ∧ (∀ j, j ≠ 0 → j ≠ 20 → mm' j = mm j) ∧ ∀ i, i ≠ 26 → mm' 0 i = mm 0 i := by
  have h' := h
  obtain ⟨nd, h1, h2, h3, h4⟩ := h'
  unfold F9_draw F10_draw
  simp only [f9_b, f10_isHour, f10_isEight, bb, f10_b 5 (show (4 : Int64).toInt + 1 = (5 : Int32).toInt by decide)]
  by_cases c1 : 0 ≤ a1 ∧ a1 < 40
  · by_cases c2 : 0 ≤ a2 ∧ a2 < 8
    · by_cases c3 : 0 ≤ a3 ∧ a3 < 5
      · simp only [if_pos c1, if_pos c2, if_pos c3]
        by_cases hn : nd < 8
        · have hc : ∀ k, k < 24 → (nI k).toNatClampNeg = k := fun k hk => nI_clamp (by omega)
          have e0 : ¬ nI nd = (8 : Int32) := fun z => by
            have := (nI_eq (a := nd) (b := 8) (by omega) (by decide)).mp z
            omega
          have m1 : (3 : Int32) * nI nd = nI (3 * nd) := pk_mul 3 nd
          have m2 : nI (3 * nd) + (1 : Int32) = nI (3 * nd + 1) := nI_1 _
          have m3 : nI (3 * nd) + (2 : Int32) = nI (3 * nd + 2) := nI_add _ 2
          obtain ⟨x1, hx1, rfl⟩ := i_of (b := 40) (by decide) c1
          obtain ⟨x2, hx2, rfl⟩ := i_of (b := 8) (by decide) c2
          obtain ⟨x3, hx3, rfl⟩ := i_of (b := 5) (by decide) c3
          rw [f1_add_lt h2 hn]
          refine ⟨nI (nd + 1), mset (mset (mset (mset mc 22 nd (nI x1)) 23 nd (nI x2)) 24 nd (nI x3)) 21 3 (nI (nd + 1)), mset (mset (mset (mset mm 20 (3 * nd) (nI x1)) 20 (3 * nd + 1) (nI x2)) 20 (3 * nd + 2) (nI x3)) 0 26 (nI (nd + 1)), ?_, ?_, ?_, ?_, ?_, ?_⟩
          · simp only [Option.bind_some, mset_app, if_true, if_neg (show ¬ (1 : Int32) = 0 by decide)]
          · simp only [lt, mset_app, h3, if_neg e0, m1, m2, m3, ckI (show 3 * nd < 24 by omega) (by decide), ckI (show 3 * nd + 1 < 24 by omega) (by decide), ckI (show 3 * nd + 2 < 24 by omega) (by decide), hc _ (show 3 * nd < 24 by omega), hc _ (show 3 * nd + 1 < 24 by omega), hc _ (show 3 * nd + 2 < 24 by omega), Nat.reduceEqDiff, if_false, if_true, nI_1, reduceIte]
          · refine ⟨nd + 1, by omega, by simp [mset_app], by simp [mset_app], fun i hi => ?_⟩
            by_cases hi2 : i = nd
            · subst hi2
              refine ⟨⟨?_, ?_, ?_⟩, ⟨x1, hx1, ?_⟩, ⟨x2, hx2, ?_⟩, x3, hx3, ?_⟩ <;> simp [mset_app]
            · have hlt : i < nd := by omega
              obtain ⟨⟨g1, g2, g3⟩, g4, g5, g6⟩ := h4 i hlt
              have n1 : ¬ 3 * i = 3 * nd := by omega
              have n2 : ¬ 3 * i = 3 * nd + 1 := by omega
              have n3 : ¬ 3 * i = 3 * nd + 2 := by omega
              have n4 : ¬ 3 * i + 1 = 3 * nd := by omega
              have n5 : ¬ 3 * i + 1 = 3 * nd + 2 := by omega
              have n6 : ¬ 3 * i + 2 = 3 * nd := by omega
              have n7 : ¬ 3 * i + 2 = 3 * nd + 1 := by omega
              refine ⟨⟨?_, ?_, ?_⟩, ?_, ?_, ?_⟩ <;> simp [mset_app, hi2, n1, n2, n3, n4, n5, n6, n7] <;> assumption
          · intro k k1 k2 k3 k4
            rw [mset_n k1, mset_n k4, mset_n k3, mset_n k2]
          · intro j j1 j2
            rw [mset_n j1, mset_n j2, mset_n j2, mset_n j2]
          · intro i hi
            rw [mset_o hi, mset_n (by decide), mset_n (by decide), mset_n (by decide)]
        · have e8 : nd = 8 := by omega
          subst e8
          rw [f1_add_ge h2 hn h1]
          refine ⟨-4, mc, mm, rfl, ?_, h, fun _ _ _ _ _ => rfl, fun _ _ _ => rfl, fun _ _ => rfl⟩
          rw [h3, if_pos (by decide)]
      · simp only [if_pos c1, if_pos c2, if_neg c3]
        exact ⟨-2, mc, mm, rfl, rfl, h, fun _ _ _ _ _ => rfl, fun _ _ _ => rfl, fun _ _ => rfl⟩
    · simp only [if_pos c1, if_neg c2]
      exact ⟨-2, mc, mm, rfl, rfl, h, fun _ _ _ _ _ => rfl, fun _ _ _ => rfl, fun _ _ => rfl⟩
  · simp only [if_neg c1]
    exact ⟨-2, mc, mm, rfl, rfl, h, fun _ _ _ _ _ => rfl, fun _ _ _ => rfl, fun _ _ => rfl⟩
