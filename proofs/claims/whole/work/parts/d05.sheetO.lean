/-! sheets -/
theorem CI.z6 {mc : Mem} {K : KX} (I : CI mc K) (v : Int32) : CI (mset mc 0 6 v) K := by
  obtain ⟨a, b, c⟩ := I
  have f : FI 0 1 mc (mset mc 0 6 v) := (FI.refl 0 1 mc).set 0 6 v (by omega)
  exact ⟨a.ag (fun k h1 _ => f k (by omega)), fun z => (b (by rw [mset_o (by decide)] at z; exact z)).ag a.n8 (fun k h1 _ => f k (by omega)), fun z => (c (by rw [mset_o (by decide)] at z; exact z)).ag (fun k h1 => f k (by omega))⟩
theorem IV.fnd {mc mm : Mem} {T : TX} {ev : EV × Nat} {dr : Nat × EV} (I : IV mc mm T ev dr) (v : Int32) : IV (mset mc 0 6 v) (mset mm 0 4 v) T ev dr := by
  obtain ⟨a, b, ⟨r1, r2, r3, r4⟩, s, l⟩ := I
  exact ⟨a.ag (fun k _ _ => mset_n (by omega)), b.z6 v, ⟨r1.ag (mset_n (by decide)) (mset_n (by decide)), r2.congr (mset_o (by decide)) (mset_o (by decide)) (mset_n (by decide)), ⟨(mset_o (by decide)).trans r3.1, (mset_o (by decide)).trans r3.2⟩, r4.fr (mset_o (by decide)) (mset_n (by decide))⟩, s.ag (fun k _ _ => mset_n (by omega)) (fun k _ _ => mset_n (by omega)), by rw [mset_s, mset_s]⟩
theorem fnd9 (v : Int32) (mc : Mem) : F9_finding v mc = some ((-10 : Int32) - v, mset mc 0 6 v) := rfl
theorem fnd10 (v : Int32) (mm : Mem) : F10_finds v mm = some ((-10 : Int32) - v, mset mm 0 4 v) := rfl
theorem IV.sh {mc mm mc' mm' : Mem} {T : TX} {ev : EV × Nat} {dr : Nat × EV} (I : IV mc mm T ev dr) (f : ∀ k, k < 26 ∨ 34 ≤ k → mc' k = mc k) (g : ∀ k, k = 0 ∨ 5 ≤ k → mm' k = mm k) (s : RS mc' mm') : IV mc' mm' T ev dr := by
  obtain ⟨a, b, ⟨r1, r2, r3, r4⟩, -, l⟩ := I
  have f0 := f 0 (by omega)
  have g0 := g 0 (by omega)
  have n8 := b.1.n8
  refine ⟨a.ag (fun k _ _ => f k (by omega)), ⟨b.1.ag (fun k _ _ => f k (by omega)), fun z => (b.2.1 (by rw [← f0]; exact z)).ag n8 (fun k _ _ => f k (by omega)), fun z => (b.2.2 (by rw [← f0]; exact z)).ag (fun k _ => f k (by omega))⟩, ⟨r1.ag (g 5 (by omega)) (g 6 (by omega)), r2.congr (congrFun g0 11) (congrFun g0 13) (g 9 (by omega)), ⟨(congrFun g0 13).trans r3.1, (congrFun g0 14).trans r3.2⟩, r4.fr (congrFun g0 26) (g 20 (by omega))⟩, s, ?_⟩
  rw [f0, g0]
  exact l
/-- but for the sheet s nothing of the sheets has changed -/
theorem RS.one {mc mm mc' mm' : Mem} (R : RS mc mm) {s : Nat} (hs : s < 4) (f : ∀ k, k ≠ 26 + 2 * s → k ≠ 27 + 2 * s → mc' k = mc k) (g1 : ∀ i, i ≠ s → mm' 1 i = mm 1 i ∧ mm' 2 i = mm 2 i) (g3 : ∀ i, (i < 60 * s ∨ 60 * s + 60 ≤ i) → mm' 3 i = mm 3 i) (h : RS1 mc' mm' s) : RS mc' mm' := by
  intro t ht
  by_cases e : t = s
  · subst e; exact h
  · obtain ⟨fo, n, h1, h2, h3, h4, h5⟩ := R t ht
    refine ⟨fo, n, h1, h2, by rw [f _ (by omega) (by omega)]; exact h3, by rw [(g1 t e).1]; exact h4, fun z => ?_⟩
    obtain ⟨k1, k2, k3⟩ := h5 z
    refine ⟨by rw [f _ (by omega) (by omega)]; exact k1, by rw [(g1 t e).2]; exact k2, fun i hi => ?_⟩
    rw [f _ (by omega) (by omega), g3 _ (by omega)]
    exact k3 i hi
theorem f6_renew {mc : Mem} {s : Nat} (hs : s < 4) (v1 v2 : Int32) : ∃ mc', F6_renew (26 + 2 * s) v1 v2 mc = some mc' ∧ (∀ k, k ≠ 26 + 2 * s → k ≠ 27 + 2 * s → mc' k = mc k) ∧ mc' (26 + 2 * s) 1 = v1 ∧ mc' (26 + 2 * s) 2 = v2 ∧ ∀ i, i < 60 → mc' (27 + 2 * s) i = 0 := by
  have hl : ln (26 + 2 * s + 1) = 60 := by
    rcases (show s = 0 ∨ s = 1 ∨ s = 2 ∨ s = 3 by omega) with rfl | rfl | rfl | rfl <;> rfl
  unfold F6_renew
  simp only [lt]
  obtain ⟨M, q1, q2, q3⟩ := f7_fill (mc := mset (mset mc (26 + 2 * s) 1 v1) (26 + 2 * s) 2 v2) 0 hl (by decide)
  refine ⟨M, by rw [q1]; rfl, fun k h1 h2 => ?_, ?_, ?_, fun i hi => ?_⟩
  · rw [q2 k (by omega), mset_n h1, mset_n h1]
  · rw [q2 _ (by omega), mset_o (by decide), mset_s]
  · rw [q2 _ (by omega), mset_s]
  · rw [show 27 + 2 * s = 26 + 2 * s + 1 by omega]; exact q3 i hi
theorem ls_26 : LS_26 Inv := by
  rintro mc mm ⟨T, ev, dr, I⟩ v1 v2 v3
  unfold F9_sheet F10_sheet
  simp only [f9_b]
  rw [f10_isSheet, bb, f10_b 3 (show (2 : Int64).toInt + 1 = (3 : Int32).toInt by decide)]
  have bad : ∃ (r : Int32) (mc' mm' : Mem), some ((-2 : Int32), mc) = some (r, mc') ∧ some ((-2 : Int32), mm) = some (r, mm') ∧ Inv mc' mm' := ⟨-2, mc, mm, rfl, rfl, T, ev, dr, I⟩
  by_cases d1 : 0 ≤ v1 ∧ v1 < 4
  · rw [if_pos d1, if_pos d1]
    by_cases d2 : 0 ≤ v2 ∧ v2 < 3
    · rw [if_pos d2, if_pos d2]
      by_cases d3 : v3 ≤ 60
      · rw [if_pos d3, if_pos d3]
        by_cases d4 : 0 ≤ v3
        · rw [if_pos d4, if_pos d4]
          obtain ⟨s, hs, rfl⟩ := i_of (b := 4) (by decide) d1
          obtain ⟨fo, hf, rfl⟩ := i_of (b := 3) (by decide) d2
          have d5 : 0 ≤ v3 ∧ v3 < nI 61 := ⟨d4, by
            rw [Int32.lt_iff_toInt_lt, show (nI 61).toInt = 61 from by decide]
            have := Int32.le_iff_toInt_le.mp d3
            rw [show (60 : Int32).toInt = 60 from by decide] at this
            omega⟩
          obtain ⟨n, hn, rfl⟩ := i_of (b := 61) (by decide) d5
          rw [ckI hs (by decide), ckI hs (by decide), ckI hs (by decide), nI_clamp (show s < 2 ^ 31 by omega)]
          obtain ⟨mc', q1, q2, q3, q4, q5⟩ := f6_renew (mc := mc) hs (nI fo) (nI n)
          have ref : ∃ mm', F10_sheet_h55 (nI s) (nI fo) (nI n) FU 0 (mset (mset mm 1 s (nI fo)) 2 s (nI n)) = some (nI n, mm') ∧ (∀ k, k = 0 ∨ 5 ≤ k → mm' k = mm k) ∧ mm' 1 = (mset (mset mm 1 s (nI fo)) 2 s (nI n)) 1 ∧ mm' 2 = (mset (mset mm 1 s (nI fo)) 2 s (nI n)) 2 ∧ (∀ i, i < n → mm' 3 (60 * s + i) = 0) ∧ ∀ i, (i < 60 * s ∨ 60 * s + 60 ≤ i) → mm' 3 i = mm 3 i := by
            refine lpF (fun m (x : Int32 × Mem) => F10_sheet_h55 (nI s) (nI fo) (nI n) m x.1 x.2) (fun i x => x.1 = nI i ∧ (∀ k, k = 0 ∨ 5 ≤ k → x.2 k = mm k) ∧ x.2 1 = (mset (mset mm 1 s (nI fo)) 2 s (nI n)) 1 ∧ x.2 2 = (mset (mset mm 1 s (nI fo)) 2 s (nI n)) 2 ∧ (∀ j, j < i → x.2 3 (60 * s + j) = 0) ∧ ∀ i, (i < 60 * s ∨ 60 * s + 60 ≤ i) → x.2 3 i = mm 3 i) (fun r => ∃ mm', r = some (nI n, mm') ∧ (∀ k, k = 0 ∨ 5 ≤ k → mm' k = mm k) ∧ mm' 1 = (mset (mset mm 1 s (nI fo)) 2 s (nI n)) 1 ∧ mm' 2 = (mset (mset mm 1 s (nI fo)) 2 s (nI n)) 2 ∧ (∀ i, i < n → mm' 3 (60 * s + i) = 0) ∧ ∀ i, (i < 60 * s ∨ 60 * s + 60 ≤ i) → mm' 3 i = mm 3 i) n (by omega) ?_ ?_ (0, mset (mset mm 1 s (nI fo)) 2 s (nI n)) ⟨rfl, fun k hk => by dsimp only; rw [mset_n (by omega), mset_n (by omega)], rfl, rfl, fun j hj => by omega, fun i _ => by dsimp only; rw [mset_n (by decide), mset_n (by decide)]⟩
            · rintro m i ⟨x, M⟩ hi ⟨e1, f, g1, g2, c, h⟩
              dsimp only at e1 f g1 g2 c h
              subst e1
              left
              refine ⟨(nI (i + 1), mset M 3 (60 * s + i) 0), ?_, rfl, fun k hk => by dsimp only; rw [mset_n (by omega)]; exact f k hk, by dsimp only; rw [mset_n (by decide)]; exact g1, by dsimp only; rw [mset_n (by decide)]; exact g2, fun j hj => ?_, fun j hj => by dsimp only; rw [mset_o (by omega)]; exact h j hj⟩
              · show F10_sheet_p55 _ (nI s) (nI fo) (nI n) (nI i) M = _
                unfold F10_sheet_p55
                rw [if_neg (nI_ge hi (by omega)), zm60, nI_add, ckI (show 60 * s + i < 240 by omega) (by decide), nI_clamp (show 60 * s + i < 2 ^ 31 by omega), nI_1]
              · dsimp only
                by_cases e : j = i
                · subst e; rw [mset_s]
                · rw [mset_o (by omega)]; exact c j (by omega)
            · rintro m ⟨x, M⟩ ⟨e1, f, g1, g2, c, h⟩
              dsimp only at e1 f g1 g2 c h
              subst e1
              refine ⟨M, ?_, f, g1, g2, c, h⟩
              show F10_sheet_p55 _ (nI s) (nI fo) (nI n) (nI n) M = _
              unfold F10_sheet_p55
              rw [if_pos (nI_le (Nat.le_refl _) (by omega))]
          obtain ⟨mm', p1, p2, p3, p4, p5, p6⟩ := ref
          refine ⟨nI n, mc', mm', ?_, p1, T, ev, dr, I.sh (fun k hk => q2 k (by omega) (by omega)) p2 (I.2.2.2.1.one hs q2 (fun i hi => ?_) p6 ⟨some fo, n, by omega, fun j hj => by cases hj; exact hf, q3, ?_, fun _ => ⟨q4, ?_, fun i hi => ?_⟩⟩)⟩
          · rw [q1]; rfl
          · rw [p3, p4]
            exact ⟨by rw [mset_n (by decide), mset_o hi], by rw [mset_o hi, mset_n (by decide)]⟩
          · rw [p3, mset_n (by decide), mset_s]; rfl
          · rw [p4, mset_s]
          · rw [q5 i (by omega), p5 i hi]
        · rw [if_neg d4, if_neg d4, fnd9, fnd10]
          exact ⟨_, _, _, rfl, rfl, T, ev, dr, I.fnd 5⟩
      · rw [if_neg d3, if_neg d3]; exact bad
    · rw [if_neg d2, if_neg d2]; exact bad
  · rw [if_neg d1, if_neg d1]; exact bad
theorem f6_lost {mc mm : Mem} {s : Nat} (R : RS mc mm) (hs : s < 4) : (F6_isLost (26 + 2 * s) mc = some 1 ∧ ¬ 0 ≤ mm 1 s) ∨ ∃ fo n, fo < 3 ∧ n ≤ 60 ∧ F6_isLost (26 + 2 * s) mc = some 0 ∧ 0 ≤ mm 1 s ∧ mc (26 + 2 * s) 1 = nI fo ∧ mm 1 s = nI fo ∧ mc (26 + 2 * s) 2 = nI n ∧ mm 2 s = nI n ∧ ∀ i, i < n → mc (27 + 2 * s) i = mm 3 (60 * s + i) := by
  obtain ⟨f, n, h1, h2, h3, h4, h5⟩ := R s hs
  unfold F6_isLost
  cases f with
  | none => left; rw [h3, h4]; exact ⟨rfl, by decide⟩
  | some fo =>
    right
    obtain ⟨k1, k2, k3⟩ := h5 (fun z => by cases z)
    have := h2 fo rfl
    rw [h3, h4, if_neg (show ¬ en (some fo) = -1 from nI_ne1 (by omega))]
    exact ⟨fo, n, this, h1, rfl, nI_pos' (by omega), rfl, rfl, k1, k2, k3⟩
theorem ls_27 : LS_27 Inv := by
  rintro mc mm ⟨T, ev, dr, I⟩ v1
  unfold F9_lose F10_lose
  simp only [lt]
  rw [f9_b, f10_isSheet, bb]
  by_cases d1 : 0 ≤ v1 ∧ v1 < 4
  · rw [if_pos d1, if_pos d1]
    obtain ⟨s, hs, rfl⟩ := i_of (b := 4) (by decide) d1
    rw [ckI hs (by decide), ckI hs (by decide), ckI hs (by decide), ckI hs (by decide), ckI hs (by decide), ckI hs (by decide), nI_clamp (show s < 2 ^ 31 by omega)]
    rcases f6_lost I.2.2.2.1 hs with ⟨h1, h2⟩ | ⟨fo, n, hf, hn, h1, h2, k1, k2, k3, k4, k5⟩
    · rw [h1, Option.bind_some, if_neg (show ¬ (1 : Int32) = 0 by decide), if_neg h2, fnd9, fnd10]
      exact ⟨_, _, _, rfl, rfl, T, ev, dr, I.fnd 1⟩
    · rw [h1, Option.bind_some, if_pos rfl, if_pos h2]
      obtain ⟨mc', q1, q2, q3, q4, q5⟩ := f6_renew (mc := mc) hs (-1) 0
      refine ⟨nI n, mc', mset mm 1 s (-1), ?_, ?_, T, ev, dr, I.sh (fun k hk => q2 k (by omega) (by omega)) (fun k hk => mset_n (by omega)) (I.2.2.2.1.one hs q2 (fun i hi => ⟨mset_o hi, by rw [mset_n (by decide)]⟩) (fun i _ => by rw [mset_n (by decide)]) ⟨none, 0, by omega, fun j hj => (by cases hj), q3, mset_s _ _ _ _, fun z => absurd rfl z⟩)⟩
      · rw [q1, k3]; rfl
      · rw [mset_n (show 2 ≠ 1 by decide), k4]
  · rw [if_neg d1, if_neg d1]
    exact ⟨_, mc, mm, rfl, rfl, T, ev, dr, I⟩
theorem f10_inN {n : Nat} (hn : n < 2 ^ 30) (x : Int32) : F10_in x.toInt64 0 ((nI n - 1).toInt64) = some (if 0 ≤ x ∧ x < nI n then 1 else 0) := by
  rw [f10_in]
  have e : ((0 : Int64) ≤ x.toInt64 ∧ x.toInt64 ≤ (nI n - 1).toInt64) ↔ (0 ≤ x ∧ x < nI n) := by
    rw [Int64.le_iff_toInt_le, Int64.le_iff_toInt_le, Int32.le_iff_toInt_le, Int32.lt_iff_toInt_lt, Int32.toInt_toInt64, Int32.toInt_toInt64, nI_toInt (show n < 2 ^ 31 by omega), show (nI n - 1).toInt = (n : Int) - 1 from pk_sub_toInt (b := 1) hn (by decide)]
    have : (0 : Int64).toInt = 0 := by decide
    have : (0 : Int32).toInt = 0 := by decide
    omega
  simp only [e]
/-- what a call finds of an item, both sides -/
theorem item_one {mc mm : Mem} {T : TX} {ev : EV × Nat} {dr : Nat × EV} (I : IV mc mm T ev dr) {s : Nat} (hs : s < 4) (v2 v3 : Int32) : (∃ k : Int32, ¬ k = 0 ∧ ¬ (-10 : Int32) - k = 0 ∧ F9_itemFinding (26 + 2 * s) v2 v3 mc = some k ∧ F10_lacks (nI s) v2 v3 mm = some ((-10 : Int32) - k, mset mm 0 4 k)) ∨ ∃ fo n i, fo < 3 ∧ n ≤ 60 ∧ i < n ∧ v2 = nI fo ∧ v3 = nI i ∧ F9_itemFinding (26 + 2 * s) v2 v3 mc = some 0 ∧ F10_lacks (nI s) v2 v3 mm = some (0, mm) ∧ mc (26 + 2 * s) 1 = nI fo ∧ mm 1 s = nI fo ∧ mc (26 + 2 * s) 2 = nI n ∧ mm 2 s = nI n ∧ ∀ i, i < n → mc (27 + 2 * s) i = mm 3 (60 * s + i) := by
  unfold F9_itemFinding F10_lacks
  rw [ckI hs (by decide), ckI hs (by decide), ckI hs (by decide), nI_clamp (show s < 2 ^ 31 by omega)]
  rcases f6_lost I.2.2.2.1 hs with ⟨h1, h2⟩ | ⟨fo, n, hf, hn, h1, h2, k1, k2, k3, k4, k5⟩
  · left
    rw [h1, Option.bind_some, if_neg (show ¬ (1 : Int32) = 0 by decide), if_neg h2, fnd10]
    exact ⟨1, by decide, by decide, rfl, rfl⟩
  · rw [h1, Option.bind_some, if_pos rfl, if_pos h2, k1, k2, k3, k4]
    by_cases c : nI fo = v2
    · rw [if_pos c, if_pos c, f9_b, f10_inN (by omega), bb]
      by_cases d : 0 ≤ v3 ∧ v3 < nI n
      · right
        obtain ⟨i, hi, e⟩ := i_of (by omega) d
        rw [if_pos d, if_pos d]
        exact ⟨fo, n, i, hf, hn, hi, c.symm, e, rfl, rfl, rfl, rfl, rfl, rfl, k5⟩
      · left
        rw [if_neg d, if_neg d, fnd10]
        exact ⟨2, by decide, by decide, rfl, rfl⟩
    · left
      rw [if_neg c, if_neg c, fnd10]
      exact ⟨3, by decide, by decide, rfl, rfl⟩
def cutV (fo : Nat) (v : Int32) : Int32 := if fo = 0 then v.toInt8.toInt32 else if fo = 1 then v.toInt16.toInt32 else v
theorem f10_cut {fo : Nat} (hf : fo < 3) (v : Int32) : F10_cut (nI fo) v = some (cutV fo v) := by
  unfold F10_cut cutV
  rcases (show fo = 0 ∨ fo = 1 ∨ fo = 2 by omega) with rfl | rfl | rfl <;> rfl
theorem f6_put {mc : Mem} {s fo n i : Nat} (hs : s < 4) (hf : fo < 3) (hn : n ≤ 60) (hi : i < n) (k1 : mc (26 + 2 * s) 1 = nI fo) (k3 : mc (26 + 2 * s) 2 = nI n) (v : Int32) : F6_put (26 + 2 * s) (nI i) v mc = some (mset mc (27 + 2 * s) i (cutV fo v)) := by
  unfold F6_put F6_put_b42 cutV
  rw [k3, f9_b, if_pos (of_i hi (by omega)), k1, ckI (show i < 60 by omega) (by decide), ckI (show i < 60 by omega) (by decide), ckI (show i < 60 by omega) (by decide), nI_clamp (show i < 2 ^ 31 by omega), show 26 + 2 * s + 1 = 27 + 2 * s by omega]
  rcases (show fo = 0 ∨ fo = 1 ∨ fo = 2 by omega) with rfl | rfl | rfl <;> rfl
/-- one item laid, both sides -/
theorem RS.lay {mc mm : Mem} (R : RS mc mm) {s fo n i : Nat} (hs : s < 4) (hf : fo < 3) (hn : n ≤ 60) (hi : i < n) (k1 : mc (26 + 2 * s) 1 = nI fo) (k2 : mm 1 s = nI fo) (k3 : mc (26 + 2 * s) 2 = nI n) (k4 : mm 2 s = nI n) (k5 : ∀ i, i < n → mc (27 + 2 * s) i = mm 3 (60 * s + i)) (v : Int32) : RS (mset mc (27 + 2 * s) i v) (mset mm 3 (60 * s + i) v) := by
  refine R.one hs (fun k _ h => mset_n h) (fun j _ => ⟨by rw [mset_n (by decide)], by rw [mset_n (by decide)]⟩) (fun j hj => mset_o (by omega)) ⟨some fo, n, hn, fun j hj => by cases hj; exact hf, by rw [mset_n (by omega)]; exact k1, by rw [mset_n (by decide)]; exact k2, fun _ => ⟨by rw [mset_n (by omega)]; exact k3, by rw [mset_n (by decide)]; exact k4, fun j hj => ?_⟩⟩
  by_cases e : j = i
  · subst e; rw [mset_s, mset_s]
  · rw [mset_o e, mset_o (by omega)]; exact k5 j hj
theorem ls_28 : LS_28 Inv := by
  rintro mc mm ⟨T, ev, dr, I⟩ v1 v2 v3 v4
  unfold F9_lay F10_lay
  simp only [f9_b]
  rw [f10_isSheet, bb, f10_b 3 (show (2 : Int64).toInt + 1 = (3 : Int32).toInt by decide)]
  by_cases d1 : 0 ≤ v1 ∧ v1 < 4
  · rw [if_pos d1, if_pos d1]
    by_cases d2 : 0 ≤ v2 ∧ v2 < 3
    · rw [if_pos d2, if_pos d2]
      obtain ⟨s, hs, rfl⟩ := i_of (b := 4) (by decide) d1
      rw [ckI hs (by decide), ckI hs (by decide), nI_clamp (show s < 2 ^ 31 by omega)]
      rcases item_one I hs v2 v3 with ⟨k, h0, h00, h1, h2⟩ | ⟨fo, n, i, hf, hn, hi, rfl, rfl, h1, h2, k1, k2, k3, k4, k5⟩
      · rw [h1, h2, Option.bind_some, Option.bind_some, if_neg h0]
        dsimp only
        rw [if_neg h00, fnd9]
        exact ⟨_, _, _, rfl, rfl, T, ev, dr, I.fnd k⟩
      · rw [h1, h2, Option.bind_some, Option.bind_some, if_pos rfl]
        dsimp only
        rw [if_pos rfl, f6_put hs hf hn hi k1 k3, Option.bind_some, f10_cut hf, Option.bind_some, zm60, nI_add, ckI (show 60 * s + i < 240 by omega) (by decide), nI_clamp (show 60 * s + i < 2 ^ 31 by omega)]
        exact ⟨1, _, _, rfl, rfl, T, ev, dr, I.sh (fun k hk => mset_n (by omega)) (fun k hk => mset_n (by omega)) (I.2.2.2.1.lay hs hf hn hi k1 k2 k3 k4 k5 _)⟩
    · rw [if_neg d2, if_neg d2]
      exact ⟨_, mc, mm, rfl, rfl, T, ev, dr, I⟩
  · rw [if_neg d1, if_neg d1]
    exact ⟨_, mc, mm, rfl, rfl, T, ev, dr, I⟩
theorem ls_29 : LS_29 Inv := by
  rintro mc mm ⟨T, ev, dr, I⟩ v1 v2 v3
  unfold F9_get F10_get
  simp only [f9_b]
  rw [f10_isSheet, bb, f10_b 3 (show (2 : Int64).toInt + 1 = (3 : Int32).toInt by decide)]
  by_cases d1 : 0 ≤ v1 ∧ v1 < 4
  · rw [if_pos d1, if_pos d1]
    by_cases d2 : 0 ≤ v2 ∧ v2 < 3
    · rw [if_pos d2, if_pos d2]
      obtain ⟨s, hs, rfl⟩ := i_of (b := 4) (by decide) d1
      rw [ckI hs (by decide), ckI hs (by decide), nI_clamp (show s < 2 ^ 31 by omega)]
      rcases item_one I hs v2 v3 with ⟨k, h0, h00, h1, h2⟩ | ⟨fo, n, i, hf, hn, hi, rfl, rfl, h1, h2, k1, k2, k3, k4, k5⟩
      · rw [h1, h2, Option.bind_some, Option.bind_some, if_neg h0]
        dsimp only
        rw [if_neg h00, fnd9]
        exact ⟨_, _, _, rfl, rfl, T, ev, dr, I.fnd k⟩
      · rw [h1, h2, Option.bind_some, Option.bind_some, if_pos rfl]
        dsimp only
        rw [if_pos rfl, ckI (show i < 60 by omega) (by decide), nI_clamp (show i < 2 ^ 31 by omega), zm60, nI_add, ckI (show 60 * s + i < 240 by omega) (by decide), nI_clamp (show 60 * s + i < 2 ^ 31 by omega), show 26 + 2 * s + 1 = 27 + 2 * s by omega, k5 i hi]
        exact ⟨_, mc, mm, rfl, rfl, T, ev, dr, I⟩
    · rw [if_neg d2, if_neg d2]
      exact ⟨_, mc, mm, rfl, rfl, T, ev, dr, I⟩
  · rw [if_neg d1, if_neg d1]
    exact ⟨_, mc, mm, rfl, rfl, T, ev, dr, I⟩
