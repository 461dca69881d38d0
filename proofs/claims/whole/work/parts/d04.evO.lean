/-! events told, undone; what is drawn, forgotten -/
def addE (ev : EV × Nat) (a b c : Nat) : EV × Nat := ((setF ev.1.1 ev.2 a, setF ev.1.2.1 ev.2 b, setF ev.1.2.2 ev.2 c), ev.2 + 1)
def addC (mc : Mem) (o n : Nat) (a b c : Int32) : Mem := mset (mset (mset (mset mc (o + 1) n a) (o + 2) n b) (o + 3) n c) o 3 (nI (n + 1))
def addM (mm : Mem) (n : Nat) (a b c : Int32) : Mem := mset (mset (mset (mset mm 9 (3 * n) a) 9 (3 * n + 1) b) 9 (3 * n + 2) c) 0 11 (nI (n + 1))
theorem addC_k {mc : Mem} {o n : Nat} {a b c : Int32} {k : Nat} (h : k < o ∨ o + 4 ≤ k) : addC mc o n a b c k = mc k := by unfold addC; rw [mset_n (by omega), mset_n (by omega), mset_n (by omega), mset_n (by omega)]
theorem addM_k {mm : Mem} {n : Nat} {a b c : Int32} {k : Nat} (h : k ≠ 0) (h9 : k ≠ 9) : addM mm n a b c k = mm k := by unfold addM; rw [mset_n h, mset_n h9, mset_n h9, mset_n h9]
theorem addM_0 {mm : Mem} {n : Nat} {a b c : Int32} {i : Nat} (h : i ≠ 11) : addM mm n a b c 0 i = mm 0 i := by unfold addM; rw [mset_o h, mset_n (by decide), mset_n (by decide), mset_n (by decide)]
theorem CE.add {mc : Mem} {ev : EV × Nat} {a b c : Nat} (C : CE mc 17 ev.1 ev.2) (hn : ev.2 < 8) (l : a < 3 ∧ b < 40 ∧ c < 8) : CE (addC mc 17 ev.2 (nI a) (nI b) (nI c)) 17 (addE ev a b c).1 (addE ev a b c).2 := by
  obtain ⟨c1, c2, c3⟩ := C
  refine ⟨show ev.2 + 1 ≤ 8 by omega, mset_s _ _ _ _, fun i (hi : i < ev.2 + 1) => ?_⟩
  unfold addC addE
  dsimp only
  by_cases e : i = ev.2
  · subst e
    rw [setF_s, setF_s, setF_s]
    refine ⟨⟨?_, ?_, ?_⟩, l⟩
    · rw [mset_n (by decide), mset_n (by decide), mset_n (by decide), mset_s]
    · rw [mset_n (by decide), mset_n (by decide), mset_s]
    · rw [mset_n (by decide), mset_s]
  · rw [setF_n e, setF_n e, setF_n e]
    obtain ⟨⟨g1, g2, g3⟩, g4⟩ := c3 i (by omega)
    refine ⟨⟨?_, ?_, ?_⟩, g4⟩
    · rw [mset_n (by decide), mset_n (by decide), mset_n (by decide), mset_o e]; exact g1
    · rw [mset_n (by decide), mset_n (by decide), mset_o e, mset_n (by decide)]; exact g2
    · rw [mset_n (by decide), mset_o e, mset_n (by decide), mset_n (by decide)]; exact g3
theorem ME.add {mm : Mem} {ev : EV × Nat} {a b c : Nat} (C : ME mm ev.1 ev.2 (fun _ => true)) (h13 : mm 0 13 = 0) (hn : ev.2 < 8) (l : a < 3 ∧ b < 40 ∧ c < 8) : ME (addM mm ev.2 (nI a) (nI b) (nI c)) (addE ev a b c).1 (addE ev a b c).2 (fun _ => true) := by
  obtain ⟨c1, c2, -, c3⟩ := C
  refine ⟨show ev.2 + 1 ≤ 8 by omega, mset_s _ _ _ _, ⟨0, by decide, (addM_0 (by decide)).trans h13, fun i _ => by rw [Nat.zero_testBit]; rfl⟩, fun i (hi : i < ev.2 + 1) => ?_⟩
  unfold addM addE
  dsimp only
  rw [mset_n (show 9 ≠ 0 by decide)]
  by_cases e : i = ev.2
  · subst e
    rw [setF_s, setF_s, setF_s]
    refine ⟨⟨?_, ?_, ?_⟩, l⟩
    · rw [mset_o (by omega), mset_o (by omega), mset_s]
    · rw [mset_o (by omega), mset_s]
    · rw [mset_s]
  · rw [setF_n e, setF_n e, setF_n e]
    obtain ⟨⟨g1, g2, g3⟩, g4⟩ := c3 i (by omega)
    refine ⟨⟨?_, ?_, ?_⟩, g4⟩
    · rw [mset_o (by omega), mset_o (by omega), mset_o (by omega)]; exact g1
    · rw [mset_o (by omega), mset_o (by omega), mset_o (by omega)]; exact g2
    · rw [mset_o (by omega), mset_o (by omega), mset_o (by omega)]; exact g3
/-- as IV, but for the caches -/
def IB (mc mm : Mem) (T : TX) (ev : EV × Nat) (dr : Nat × EV) : Prop := CTT mc T ∧ CB mc (KT T ev dr) ∧ RI mm T ev dr ∧ RS mc mm ∧ mc 0 6 = mm 0 4
theorem IV.ib {mc mm : Mem} {T : TX} {ev : EV × Nat} {dr : Nat × EV} (I : IV mc mm T ev dr) : IB mc mm T ev dr := ⟨I.1, I.2.1.1, I.2.2⟩
theorem IB.flg {mc mm : Mem} {T : TX} {ev : EV × Nat} {dr : Nat × EV} (I : IB mc mm T ev dr) : IV (flg mc) mm T ev dr := by
  obtain ⟨a, b, c, d, e⟩ := I
  exact ⟨a.ag (fun k _ _ => flg_k _ (by omega)), CI.stale (b.ag (fun k _ _ => flg_k _ (by omega))) (flg_9 _).1 (flg_9 _).2, c, d.ag (fun k _ _ => flg_k _ (by omega)) (fun _ _ _ => rfl), by rw [flg_0 _ (by decide) (by decide)]; exact e⟩
theorem IB.add {mc mm : Mem} {T : TX} {ev : EV × Nat} {dr : Nat × EV} (I : IB mc mm T ev dr) {a b c : Nat} (hn : ev.2 < 8) (l : a < 3 ∧ b < 40 ∧ c < 8) : IB (addC mc 17 ev.2 (nI a) (nI b) (nI c)) (addM mm ev.2 (nI a) (nI b) (nI c)) T (addE ev a b c) dr := by
  obtain ⟨h1, h2, ⟨r1, r2, r3, r4⟩, h4, h5⟩ := I
  have hk : ∀ k, k < 17 ∨ 21 ≤ k → addC mc 17 ev.2 (nI a) (nI b) (nI c) k = mc k := fun k h => addC_k (by omega)
  refine ⟨h1.ag (fun k _ _ => hk k (by omega)), ⟨⟨h2.1.1.ag (fun k _ _ => hk k (by omega)), h2.1.2.ag (fun k _ _ => hk k (by omega))⟩, CE.add h2.2.1 hn l, h2.2.2.1.ag (fun k _ _ => hk k (by omega)), h2.2.2.2.ag (fun k _ _ => hk k (by omega))⟩, ⟨r1.ag (addM_k (by decide) (by decide)) (addM_k (by decide) (by decide)), ME.add r2 r3.1 hn l, ⟨(addM_0 (by decide)).trans r3.1, (addM_0 (by decide)).trans r3.2⟩, r4.fr (addM_0 (by decide)) (addM_k (by decide) (by decide))⟩, h4.ag (fun k _ _ => hk k (by omega)) (fun k _ _ => addM_k (by omega) (by omega)), ?_⟩
  rw [hk 0 (by omega), addM_0 (by decide)]
  exact h5
theorem may_ev (a b c : Int32) : F9_mayBeEvent a b c = some (if 0 ≤ a ∧ a < 3 then (if 0 ≤ b ∧ b < 40 then (if 0 ≤ c ∧ c < 8 then 1 else 0) else 0) else 0) := by
  unfold F9_mayBeEvent F9_mayBeEvent_b30
  simp only [f9_b]
  by_cases d1 : 0 ≤ a ∧ a < 3
  · rw [if_pos d1, if_pos d1]
    by_cases d2 : 0 ≤ b ∧ b < 40
    · rw [if_pos d2, if_pos d2]
      by_cases d3 : 0 ≤ c ∧ c < 8
      · rw [if_pos d3, if_pos d3]
      · rw [if_neg d3, if_neg d3]
    · rw [if_neg d2, if_neg d2]
  · rw [if_neg d1, if_neg d1]
/-- one event more, both sides: it may be, and there is room, or nothing changes -/
theorem ev_one {mc mm : Mem} {T : TX} {ev : EV × Nat} {dr : Nat × EV} (I : IB mc mm T ev dr) (a b c : Int32) : (F9_mayBeEvent a b c = some 0 ∧ F10_event a b c mm = some (-2, mm)) ∨ (F9_mayBeEvent a b c = some 1 ∧ ev.2 = 8 ∧ F2_add 17 a b c mc = some (0, mc) ∧ F10_event a b c mm = some (-4, mm)) ∨ ∃ mc' mm' ev', F9_mayBeEvent a b c = some 1 ∧ F2_add 17 a b c mc = some (1, mc') ∧ F10_event a b c mm = some (nI (ev.2 + 1), mm') ∧ ev'.2 = ev.2 + 1 ∧ ev.2 < 8 ∧ mc' 17 3 = nI (ev.2 + 1) ∧ (∀ k, k < 17 ∨ 21 ≤ k → mc' k = mc k) ∧ (∀ k, k ≠ 0 → k ≠ 9 → mm' k = mm k) ∧ IB mc' mm' T ev' dr := by
  have e8 : ev.2 ≤ 8 := I.2.1.2.1.1
  have ec : mc 17 3 = nI ev.2 := I.2.1.2.1.2.1
  have em : mm 0 11 = nI ev.2 := I.2.2.1.2.1.2.1
  rw [may_ev]
  unfold F10_event
  rw [f10_b 3 (show (2 : Int64).toInt + 1 = (3 : Int32).toInt by decide), f10_isHour, bb, f10_isEight, bb, em]
  by_cases d1 : 0 ≤ a ∧ a < 3
  · rw [if_pos d1, if_pos d1]
    by_cases d2 : 0 ≤ b ∧ b < 40
    · rw [if_pos d2, if_pos d2]
      by_cases d3 : 0 ≤ c ∧ c < 8
      · rw [if_pos d3, if_pos d3]
        right
        by_cases z : ev.2 = 8
        · left
          rw [if_pos (show nI ev.2 = 8 by rw [z]; rfl)]
          exact ⟨rfl, z, f2_add_ge ec (by omega) e8 a b c, rfl⟩
        · right
          rw [if_neg (show ¬ nI ev.2 = 8 from fun y => z ((nI_eq (b := 8) (by omega) (by decide)).mp y))]
          obtain ⟨x1, hx1, rfl⟩ := i_of (b := 3) (by decide) d1
          obtain ⟨x2, hx2, rfl⟩ := i_of (b := 40) (by decide) d2
          obtain ⟨x3, hx3, rfl⟩ := i_of (b := 8) (by decide) d3
          refine ⟨addC mc 17 ev.2 (nI x1) (nI x2) (nI x3), addM mm ev.2 (nI x1) (nI x2) (nI x3), addE ev x1 x2 x3, rfl, f2_add_lt (Or.inl rfl) ec (by omega) _ _ _, ?_, rfl, by omega, mset_s _ _ _ _, fun k h => addC_k (by omega), fun k h1 h2 => addM_k h1 h2, I.add (by omega) ⟨hx1, hx2, hx3⟩⟩
          rw [r_puts em (by omega), Option.bind_some, mset_s]
          rfl
      · rw [if_neg d3, if_neg d3]; exact Or.inl ⟨rfl, rfl⟩
    · rw [if_neg d2, if_neg d2]; exact Or.inl ⟨rfl, rfl⟩
  · rw [if_neg d1, if_neg d1]; exact Or.inl ⟨rfl, rfl⟩
theorem ls_6 : LS_6 Inv := by
  rintro mc mm ⟨T, ev, dr, I⟩ a b c
  unfold F9_event
  rcases ev_one I.ib a b c with ⟨h1, h2⟩ | ⟨h1, -, h2, h3⟩ | ⟨mc', mm', ev', h1, h2, h3, -, -, h4, -, -, h5⟩
  · rw [h1, h2]
    exact ⟨_, mc, mm, rfl, rfl, T, ev, dr, I⟩
  · rw [h1, h3, Option.bind_some, if_neg (show ¬ (1 : Int32) = 0 by decide), h2]
    exact ⟨_, mc, mm, rfl, rfl, T, ev, dr, I⟩
  · rw [h1, h3, Option.bind_some, if_neg (show ¬ (1 : Int32) = 0 by decide), h2]
    refine ⟨nI (ev.2 + 1), flg mc', mm', ?_, rfl, T, ev', dr, h5.flg⟩
    show some ((flg mc') 17 3, flg mc') = _
    rw [flg_k _ (by decide), h4]
theorem ls_7 : LS_7 Inv := by
  rintro mc mm ⟨T, ev, dr, I⟩
  have e8 : ev.2 ≤ 8 := I.2.1.1.2.1.1
  have ec : mc 17 3 = nI ev.2 := I.2.1.1.2.1.2.1
  have em : mm 0 11 = nI ev.2 := I.2.2.1.2.1.2.1
  unfold F9_back F10_back
  simp only [lt]
  rw [ec, em]
  by_cases z : ev.2 = 0
  · rw [if_pos (show nI ev.2 = 0 by rw [z]; rfl), if_pos (show nI ev.2 = 0 by rw [z]; rfl)]
    exact ⟨_, mc, mm, rfl, rfl, T, ev, dr, I⟩
  · have hnz : ¬ nI ev.2 = 0 := nI_ne0 (by omega) (by omega)
    rw [if_neg hnz, if_neg hnz, show nI ev.2 - (1 : Int32) = nI (ev.2 - 1) from nI_sub (b := 1) (by omega), mset_s]
    obtain ⟨h1, h2, ⟨r1, r2, r3, r4⟩, h4, h5⟩ := I.ib
    have hk : ∀ k, k ≠ 17 → (mset mc 17 3 (nI (ev.2 - 1))) k = mc k := fun k h => mset_n h
    have J : IB (mset mc 17 3 (nI (ev.2 - 1))) (mset mm 0 11 (nI (ev.2 - 1))) T (ev.1, ev.2 - 1) dr := by
      refine ⟨h1.ag (fun k _ _ => hk k (by omega)), ⟨⟨h2.1.1.ag (fun k _ _ => hk k (by omega)), h2.1.2.ag (fun k _ _ => hk k (by omega))⟩, ?_, h2.2.2.1.ag (fun k _ _ => hk k (by omega)), h2.2.2.2.ag (fun k _ _ => hk k (by omega))⟩, ⟨r1.ag (mset_n (by decide)) (mset_n (by decide)), ?_, ⟨(mset_o (by decide)).trans r3.1, (mset_o (by decide)).trans r3.2⟩, r4.fr (mset_o (by decide)) (mset_n (by decide))⟩, h4.ag (fun k _ _ => hk k (by omega)) (fun k _ _ => mset_n (by omega)), by rw [hk 0 (by decide), mset_o (by decide)]; exact h5⟩
      · obtain ⟨c1, c2, c3⟩ := h2.2.1
        refine ⟨show ev.2 - 1 ≤ 8 by omega, mset_s _ _ _ _, fun i (hi : i < ev.2 - 1) => ?_⟩
        rw [mset_n (by decide), mset_n (by decide), mset_n (by decide)]
        exact c3 i (show i < ev.2 by omega)
      · obtain ⟨c1, c2, ⟨N, n1, n2, n3⟩, c3⟩ := r2
        refine ⟨show ev.2 - 1 ≤ 8 by omega, mset_s _ _ _ _, ⟨N, n1, (mset_o (by decide)).trans n2, fun i (hi : i < ev.2 - 1) => n3 i (by omega)⟩, fun i (hi : i < ev.2 - 1) => ?_⟩
        rw [mset_n (by decide)]
        exact c3 i (by omega)
    refine ⟨nI (ev.2 - 1), flg (mset mc 17 3 (nI (ev.2 - 1))), _, ?_, rfl, T, (ev.1, ev.2 - 1), dr, J.flg⟩
    show some ((flg (mset mc 17 3 (nI (ev.2 - 1)))) 17 3, flg (mset mc 17 3 (nI (ev.2 - 1)))) = _
    rw [flg_k _ (by decide), mset_s]
/-- what was drawn changes nothing of the caches -/
theorem IV.drw {mc mm mc' mm' : Mem} {T : TX} {ev : EV × Nat} {dr dr' : Nat × EV} (I : IV mc mm T ev dr) (f : ∀ k, k < 21 ∨ 25 ≤ k → mc' k = mc k) (g : ∀ k, k ≠ 0 → k ≠ 20 → mm' k = mm k) (g0 : ∀ i, i ≠ 26 → mm' 0 i = mm 0 i) (c : CD mc' dr'.1 dr'.2) (d : MD mm' dr'.1 dr'.2) : IV mc' mm' T ev dr' := by
  obtain ⟨h1, ⟨k1, k2, k3⟩, ⟨r1, r2, r3, r4⟩, h4, h5⟩ := I
  have n8 := k1.n8
  have CB' : CB mc' (KT T ev dr') := ⟨⟨k1.1.1.ag (fun k _ _ => f k (by omega)), k1.1.2.ag (fun k _ _ => f k (by omega))⟩, k1.2.1.ag (fun k _ _ => f k (by omega)), k1.2.2.1.ag (fun k _ _ => f k (by omega)), c⟩
  have f0 := f 0 (by omega)
  refine ⟨h1.ag (fun k _ _ => f k (by omega)), ⟨CB', fun z => ?_, fun z => ?_⟩, ⟨r1.ag (g 5 (by decide) (by decide)) (g 6 (by decide) (by decide)), r2.congr (g0 11 (by decide)) (g0 13 (by decide)) (g 9 (by decide) (by decide)), ⟨(g0 13 (by decide)).trans r3.1, (g0 14 (by decide)).trans r3.2⟩, d⟩, h4.ag (fun k _ _ => f k (by omega)) (fun k _ _ => g k (by omega) (by omega)), by rw [f0, g0 4 (by decide)]; exact h5⟩
  · have q : CC mc' (KT T ev dr) := (k2 (by rw [← f0]; exact z)).ag n8 (fun k h1 h2 => f k (by omega))
    exact q
  · have q : BC mc' (KT T ev dr) := (k3 (by rw [← f0]; exact z)).ag (fun k h1 => f k (by omega))
    exact q
theorem ls_19 : LS_19 Inv := by
  rintro mc mm ⟨T, ev, dr, I⟩
  have ec := I.2.1.1.2.2.2.2.1
  have em := I.2.2.1.2.2.2.2.1
  unfold F9_forget F10_forget
  refine ⟨mc 21 3, mset mc 21 3 0, mset mm 0 26 0, rfl, ?_, T, ev, (0, dr.2), I.drw (fun k h => mset_n (by omega)) (fun k h1 _ => mset_n h1) (fun i h => mset_o h) ⟨Nat.zero_le 8, mset_s _ _ _ _, fun i hi => absurd hi (Nat.not_lt_zero i)⟩ ⟨Nat.zero_le 8, mset_s _ _ _ _, fun i hi => absurd hi (Nat.not_lt_zero i)⟩⟩
  rw [show mc 21 3 = nI dr.1 from ec, em]
def addR (mm : Mem) (n : Nat) (a b c : Int32) : Mem := mset (mset (mset (mset mm 20 (3 * n) a) 20 (3 * n + 1) b) 20 (3 * n + 2) c) 0 26 (nI (n + 1))
theorem ls_18 : LS_18 Inv := by
  rintro mc mm ⟨T, ev, dr, I⟩ a1 a2 a3
  obtain ⟨d8, ec, cc⟩ := I.2.1.1.2.2.2
  obtain ⟨-, em, dd⟩ := I.2.2.1.2.2.2
  have d8 : dr.1 ≤ 8 := d8
  have ec : mc 21 3 = nI dr.1 := ec
  unfold F9_draw F10_draw
  simp only [f9_b, f10_isHour, f10_isEight, bb, f10_b 5 (show (4 : Int64).toInt + 1 = (5 : Int32).toInt by decide)]
  by_cases c1 : 0 ≤ a1 ∧ a1 < 40
  · by_cases c2 : 0 ≤ a2 ∧ a2 < 8
    · by_cases c3 : 0 ≤ a3 ∧ a3 < 5
      · simp only [if_pos c1, if_pos c2, if_pos c3]
        rw [em]
        by_cases hn : dr.1 < 8
        · obtain ⟨x1, hx1, rfl⟩ := i_of (b := 40) (by decide) c1
          obtain ⟨x2, hx2, rfl⟩ := i_of (b := 8) (by decide) c2
          obtain ⟨x3, hx3, rfl⟩ := i_of (b := 5) (by decide) c3
          obtain ⟨y1, y2, y3, y4, y5, y6⟩ := ix3 hn
          rw [f1_add_lt ec hn, if_neg (show ¬ nI dr.1 = 8 from fun y => by have := (nI_eq (b := 8) (by omega) (by decide)).mp y; omega)]
          refine ⟨nI (dr.1 + 1), addC mc 21 dr.1 (nI x1) (nI x2) (nI x3), addR mm dr.1 (nI x1) (nI x2) (nI x3), ?_, ?_, T, ev, (dr.1 + 1, (setF dr.2.1 dr.1 x1, setF dr.2.2.1 dr.1 x2, setF dr.2.2.2 dr.1 x3)), I.drw (fun k h => addC_k (by omega)) (fun k h1 h2 => ?_) (fun i h => ?_) ⟨show dr.1 + 1 ≤ 8 by omega, mset_s _ _ _ _, fun i (hi : i < dr.1 + 1) => ?_⟩ ⟨show dr.1 + 1 ≤ 8 by omega, mset_s _ _ _ _, fun i (hi : i < dr.1 + 1) => ?_⟩⟩
          · rw [Option.bind_some]
            dsimp only
            rw [if_neg (show ¬ (1 : Int32) = 0 by decide), mset_s]
            rfl
          · have e1 : ∀ (X : Mem) i v, (mset X 20 i v) 0 26 = X 0 26 := fun X i v => by rw [mset_n (by decide)]
            simp only [lt, e1, em, y1, y2, y3, y4, y5, y6, ckI (show 3 * dr.1 < 24 by omega) (show 24 < 2 ^ 31 by decide), ckI (show 3 * dr.1 + 1 < 24 by omega) (show 24 < 2 ^ 31 by decide), ckI (show 3 * dr.1 + 2 < 24 by omega) (show 24 < 2 ^ 31 by decide), mset_s, nI_1]
            rfl
          · unfold addR; rw [mset_n h1, mset_n h2, mset_n h2, mset_n h2]
          · unfold addR; rw [mset_o h, mset_n (by decide), mset_n (by decide), mset_n (by decide)]
          · unfold addC
            dsimp only
            by_cases e : i = dr.1
            · subst e
              rw [setF_s, setF_s, setF_s]
              refine ⟨⟨?_, ?_, ?_⟩, hx1, hx2, hx3⟩
              · rw [mset_n (by decide), mset_n (by decide), mset_n (by decide), mset_s]
              · rw [mset_n (by decide), mset_n (by decide), mset_s]
              · rw [mset_n (by decide), mset_s]
            · rw [setF_n e, setF_n e, setF_n e]
              obtain ⟨⟨g1, g2, g3⟩, g4⟩ := cc i (show i < dr.1 by omega)
              refine ⟨⟨?_, ?_, ?_⟩, g4⟩
              · rw [mset_n (by decide), mset_n (by decide), mset_n (by decide), mset_o e]; exact g1
              · rw [mset_n (by decide), mset_n (by decide), mset_o e, mset_n (by decide)]; exact g2
              · rw [mset_n (by decide), mset_o e, mset_n (by decide), mset_n (by decide)]; exact g3
          · unfold addR
            dsimp only
            rw [mset_n (show 20 ≠ 0 by decide)]
            by_cases e : i = dr.1
            · subst e
              rw [setF_s, setF_s, setF_s]
              refine ⟨⟨?_, ?_, ?_⟩, hx1, hx2, hx3⟩
              · rw [mset_o (by omega), mset_o (by omega), mset_s]
              · rw [mset_o (by omega), mset_s]
              · rw [mset_s]
            · rw [setF_n e, setF_n e, setF_n e]
              obtain ⟨⟨g1, g2, g3⟩, g4⟩ := dd i (show i < dr.1 by omega)
              refine ⟨⟨?_, ?_, ?_⟩, g4⟩
              · rw [mset_o (by omega), mset_o (by omega), mset_o (by omega)]; exact g1
              · rw [mset_o (by omega), mset_o (by omega), mset_o (by omega)]; exact g2
              · rw [mset_o (by omega), mset_o (by omega), mset_o (by omega)]; exact g3
        · have e8 : dr.1 = 8 := by omega
          rw [f1_add_ge ec hn d8, e8]
          exact ⟨-4, mc, mm, rfl, rfl, T, ev, dr, I⟩
      · simp only [if_pos c1, if_pos c2, if_neg c3]
        exact ⟨-2, mc, mm, rfl, rfl, T, ev, dr, I⟩
    · simp only [if_pos c1, if_neg c2]
      exact ⟨-2, mc, mm, rfl, rfl, T, ev, dr, I⟩
  · simp only [if_neg c1]
    exact ⟨-2, mc, mm, rfl, rfl, T, ev, dr, I⟩
