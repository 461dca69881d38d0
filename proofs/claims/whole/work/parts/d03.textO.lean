/-! texts typed, wiped, undone; events; what is drawn -/
theorem CI.stale {mc : Mem} {K : KX} (C : CB mc K) (h9 : mc 0 9 = 1) (h17 : mc 0 17 = 1) : CI mc K := ⟨C, fun z => absurd (h9.symm.trans z) (by decide), fun z => absurd (h17.symm.trans z) (by decide)⟩
theorem CS.ag {mc mc' : Mem} {ns : Nat} {SS : Nat → KS} {LT : Nat → Nat → Nat} (C : CS mc ns SS LT) (h : ∀ k, 11 ≤ k → k < 17 → mc' k = mc k) : CS mc' ns SS LT := by
  unfold CS at *
  rw [h 11 (by omega) (by omega), h 12 (by omega) (by omega), h 13 (by omega) (by omega), h 14 (by omega) (by omega), h 15 (by omega) (by omega), h 16 (by omega) (by omega)]
  exact C
theorem CD.ag {mc mc' : Mem} {nd : Nat} {DR : EV} (C : CD mc nd DR) (h : ∀ k, 21 ≤ k → k < 25 → mc' k = mc k) : CD mc' nd DR := by
  unfold CD at *
  rw [h 21 (by omega) (by omega), h 22 (by omega) (by omega), h 23 (by omega) (by omega), h 24 (by omega) (by omega)]
  exact C
theorem CE.ag {mc mc' : Mem} {ne : Nat} {E : EV} (C : CE mc 17 E ne) (h : ∀ k, 17 ≤ k → k < 21 → mc' k = mc k) : CE mc' 17 E ne := by
  unfold CE at *
  rw [h 17 (by omega) (by omega), h (17 + 1) (by omega) (by omega), h (17 + 2) (by omega) (by omega), h (17 + 3) (by omega) (by omega)]
  exact C
theorem CW.ag {mc mc' : Mem} {nw : Nat} {st ht : Nat → Nat} (C : CW mc 6 nw st ht) (h : ∀ k, 6 ≤ k → k < 11 → mc' k = mc k) : CW mc' 6 nw st ht := by
  unfold CW at *
  rw [h 6 (by omega) (by omega), h (6 + 1) (by omega) (by omega), h (6 + 2) (by omega) (by omega)]
  exact C
theorem CK.ag {mc mc' : Mem} {nw w : Nat} {ht : Nat → Nat} (C : CK mc 6 nw ht w) (h : ∀ k, 6 ≤ k → k < 11 → mc' k = mc k) : CK mc' 6 nw ht w := by
  unfold CK at *
  rw [h 6 (by omega) (by omega), h (6 + 3) (by omega) (by omega), h (6 + 4) (by omega) (by omega)]
  exact C
/-- the flags that say that the told has changed -/
def flg (M : Mem) : Mem := mset (mset M 0 9 1) 0 17 1
theorem flg_k (M : Mem) {k : Nat} (h : k ≠ 0) : flg M k = M k := by unfold flg; rw [mset_n h, mset_n h]
theorem flg_0 (M : Mem) {i : Nat} (h1 : i ≠ 9) (h2 : i ≠ 17) : flg M 0 i = M 0 i := by unfold flg; rw [mset_o h2, mset_o h1]
theorem flg_9 (M : Mem) : flg M 0 9 = 1 ∧ flg M 0 17 = 1 := by unfold flg; exact ⟨by rw [mset_o (by decide), mset_s], mset_s _ _ _ _⟩
theorem RI.txt {mm mm1 : Mem} {T T' : TX} {ev : EV × Nat} {dr : Nat × EV} (R : RI mm T ev dr) (h : RTT mm1 T') (g : ∀ k, k ≠ 5 → k ≠ 6 → mm1 k = mm k) : RI mm1 T' ev dr := by
  obtain ⟨-, b, c, d⟩ := R
  have g0 := g 0 (by decide) (by decide)
  exact ⟨h, b.congr (congrFun g0 11) (congrFun g0 13) (g 9 (by decide) (by decide)), ⟨(congrFun g0 13).trans c.1, (congrFun g0 14).trans c.2⟩, d.fr (congrFun g0 26) (g 20 (by decide) (by decide))⟩
theorem m_txt0 {mc mm M1 mm1 : Mem} {T : TX} {ev : EV × Nat} {dr : Nat × EV} {n : Nat} {b : Nat → Nat} (I : IV mc mm T ev dr) (f : ∀ k, k ≠ 2 → k ≠ 3 → M1 k = mc k) (C : CT M1 2 n b) (hn : n ≤ 23) (g : ∀ k, k ≠ 5 → k ≠ 6 → mm1 k = mm k) (h : RTT mm1 ((n, b), T.2)) : ∃ mc', F9_textChanged (nI 0) M1 = some mc' ∧ IV mc' mm1 ((n, b), T.2) ev dr ∧ mc' 2 1 = nI n := by
  obtain ⟨⟨-, a2⟩, c, r, s, l⟩ := I
  obtain ⟨M2, q1, q2, q3, q4⟩ := f8_take C hn
  have hk : ∀ k, k ≠ 0 → k ≠ 2 → k ≠ 3 → (k < 6 ∨ 11 ≤ k) → flg (mset M2 2 2 (en (fW b n))) k = mc k := fun k h0 h2 h3 h4 => by rw [flg_k _ h0, mset_n h2, q2 k h4, f k h2 h3]
  have h6 : ∀ k, 6 ≤ k → k < 11 → flg (mset M2 2 2 (en (fW b n))) k = M2 k := fun k h1 h2 => by rw [flg_k _ (by omega), mset_n (by omega)]
  have e21 : flg (mset M2 2 2 (en (fW b n))) 2 1 = nI n := by rw [flg_k _ (by decide), mset_o (by decide), q2 2 (by omega)]; exact C.1
  have CBn : CB (flg (mset M2 2 2 (en (fW b n)))) (KT ((n, b), T.2) ev dr) := ⟨⟨q3.ag h6, q4.ag h6⟩, c.1.2.1.ag (fun k h1 h2 => hk k (by omega) (by omega) (by omega) (by omega)), c.1.2.2.1.ag (fun k h1 h2 => hk k (by omega) (by omega) (by omega) (by omega)), c.1.2.2.2.ag (fun k h1 h2 => hk k (by omega) (by omega) (by omega) (by omega))⟩
  refine ⟨flg (mset M2 2 2 (en (fW b n))), ?_, ⟨⟨⟨⟨e21, fun i hi => ?_⟩, hn, ?_⟩, ?_⟩, CI.stale CBn (flg_9 _).1 (flg_9 _).2, r.txt h g, s.ag (fun k h1 h2 => hk k (by omega) (by omega) (by omega) (by omega)) (fun k h1 h2 => g k (by omega) (by omega)), ?_⟩, e21⟩
  · unfold F9_textChanged F9_textChanged_b39 F9_changed
    rw [ckI (show 0 < 2 by decide) (by decide), if_pos (show nI 0 = 0 from rfl), ckI (show 0 < 2 by decide) (by decide)]
    show (F8_take 6 2 M1).bind _ = _
    rw [q1, Option.bind_some]
    rfl
  · rw [flg_k _ (by decide), mset_n (by decide), q2 (2 + 1) (by omega)]; exact C.2 i hi
  · rw [flg_k _ (by decide), mset_s]
  · have := a2
    unfold CT at *
    rw [hk 4 (by decide) (by decide) (by decide) (by omega), hk (4 + 1) (by decide) (by decide) (by decide) (by omega)]
    exact this
  · rw [flg_0 _ (by decide) (by decide), mset_n (by decide), q2 0 (by omega), f 0 (by decide) (by decide), congrFun (g 0 (by decide) (by decide)) 4]; exact l
theorem m_txt1 {mc mm M1 mm1 : Mem} {T : TX} {ev : EV × Nat} {dr : Nat × EV} {n : Nat} {b : Nat → Nat} (I : IV mc mm T ev dr) (f : ∀ k, k ≠ 4 → k ≠ 5 → M1 k = mc k) (C : CT M1 4 n b) (hn : n ≤ 63) (g : ∀ k, k ≠ 5 → k ≠ 6 → mm1 k = mm k) (h : RTT mm1 (T.1, (n, b))) : ∃ mc', F9_textChanged (nI 1) M1 = some mc' ∧ IV mc' mm1 (T.1, (n, b)) ev dr ∧ mc' 4 1 = nI n := by
  obtain ⟨⟨a1, -⟩, c, r, s, l⟩ := I
  obtain ⟨M2, q1, q2, q3⟩ := f5_take C hn
  have hk : ∀ k, k ≠ 0 → k ≠ 4 → k ≠ 5 → (k < 11 ∨ 17 ≤ k) → flg (mset M2 4 2 (en (fS b n))) k = mc k := fun k h0 h2 h3 h4 => by rw [flg_k _ h0, mset_n h2, q2 k h4, f k h2 h3]
  have h6 : ∀ k, 11 ≤ k → k < 17 → flg (mset M2 4 2 (en (fS b n))) k = M2 k := fun k h1 h2 => by rw [flg_k _ (by omega), mset_n (by omega)]
  have e21 : flg (mset M2 4 2 (en (fS b n))) 4 1 = nI n := by rw [flg_k _ (by decide), mset_o (by decide), q2 4 (by omega)]; exact C.1
  have CBn : CB (flg (mset M2 4 2 (en (fS b n)))) (KT (T.1, (n, b)) ev dr) := ⟨⟨c.1.1.1.ag (fun k h1 h2 => hk k (by omega) (by omega) (by omega) (by omega)), c.1.1.2.ag (fun k h1 h2 => hk k (by omega) (by omega) (by omega) (by omega))⟩, c.1.2.1.ag (fun k h1 h2 => hk k (by omega) (by omega) (by omega) (by omega)), q3.ag h6, c.1.2.2.2.ag (fun k h1 h2 => hk k (by omega) (by omega) (by omega) (by omega))⟩
  refine ⟨flg (mset M2 4 2 (en (fS b n))), ?_, ⟨⟨?_, ⟨e21, fun i hi => ?_⟩, hn, ?_⟩, CI.stale CBn (flg_9 _).1 (flg_9 _).2, r.txt h g, s.ag (fun k h1 h2 => hk k (by omega) (by omega) (by omega) (by omega)) (fun k h1 h2 => g k (by omega) (by omega)), ?_⟩, e21⟩
  · unfold F9_textChanged F9_textChanged_b39 F9_changed
    rw [ckI (show 1 < 2 by decide) (by decide), if_neg (show ¬ nI 1 = 0 by decide), ckI (show 1 < 2 by decide) (by decide)]
    show (F5_take 11 4 M1).bind _ = _
    rw [q1, Option.bind_some]
    rfl
  · have := a1
    unfold CT at *
    rw [hk 2 (by decide) (by decide) (by decide) (by omega), hk (2 + 1) (by decide) (by decide) (by decide) (by omega)]
    exact this
  · rw [flg_k _ (by decide), mset_n (by decide), q2 (4 + 1) (by omega)]; exact C.2 i hi
  · rw [flg_k _ (by decide), mset_s]
  · rw [flg_0 _ (by decide) (by decide), mset_n (by decide), q2 0 (by omega), f 0 (by decide) (by decide), congrFun (g 0 (by decide) (by decide)) 4]; exact l
theorem ct_len {mc : Mem} {o n m : Nat} {b : Nat → Nat} (C : CT mc o n b) (h : m ≤ n) : CT (mset mc o 1 (nI m)) o m b := ⟨mset_s _ _ _ _, fun i hi => by rw [mset_n (by omega)]; exact C.2 i (by omega)⟩
theorem rt_len0 {mm : Mem} {T : TX} {m : Nat} (R : RTT mm T) (h : m ≤ T.1.1) : RTT (mset mm 6 0 (nI m)) ((m, T.1.2), T.2) := by
  obtain ⟨⟨r1, r2⟩, r3, r4⟩ := R
  refine ⟨⟨mset_s _ _ _ _, fun i (hi : i < m) => ?_⟩, ?_, fun i hi => ?_⟩
  · rw [mset_n (by decide)]; exact r2 i (by omega)
  · rw [mset_o (by decide)]; exact r3
  · rw [mset_n (by decide)]; exact r4 i hi
theorem rt_len1 {mm : Mem} {T : TX} {m : Nat} (R : RTT mm T) (h : m ≤ T.2.1) : RTT (mset mm 6 1 (nI m)) (T.1, (m, T.2.2)) := by
  obtain ⟨⟨r1, r2⟩, r3, r4⟩ := R
  refine ⟨⟨?_, fun i hi => ?_⟩, mset_s _ _ _ _, fun i (hi : i < m) => ?_⟩
  · rw [mset_o (by decide)]; exact r1
  · rw [mset_n (by decide)]; exact r2 i hi
  · rw [mset_n (by decide)]; exact r4 i (by omega)
theorem ls_1 : LS_1 Inv := by
  rintro mc mm ⟨T, ev, dr, I⟩ v
  have I0 := I
  obtain ⟨⟨⟨a1, a2, -⟩, a3, a4, -⟩, c, ⟨r, -⟩, -⟩ := I0
  unfold F9_wipe F10_wipe
  simp only [lt]
  rw [f9_b, f10_isTwo, bb]
  by_cases d : 0 ≤ v ∧ v < 2
  · rw [if_pos d, if_pos d]
    obtain ⟨t, ht, rfl⟩ := i_of (b := 2) (by decide) d
    rw [ckI ht (by decide), ckI ht (by decide), ckI ht (by decide), ckI ht (by decide), nI_clamp (show t < 2 ^ 31 by omega)]
    rcases (show t = 0 ∨ t = 1 by omega) with rfl | rfl
    · obtain ⟨mc', q1, q2, -⟩ := m_txt0 (M1 := mset mc 2 1 (nI 0)) (mm1 := mset mm 6 0 (nI 0)) I (fun k h1 _ => mset_n h1) (ct_len a1 (Nat.zero_le _)) (by decide) (fun k _ h2 => mset_n h2) (rt_len0 r (Nat.zero_le _))
      refine ⟨mc 2 1, mc', _, ?_, ?_, _, ev, dr, q2⟩
      · show (F9_textChanged (nI 0) (mset mc 2 1 (nI 0))).bind _ = _
        rw [q1]; rfl
      · rw [r.1.1, a1.1]; rfl
    · obtain ⟨mc', q1, q2, -⟩ := m_txt1 (M1 := mset mc 4 1 (nI 0)) (mm1 := mset mm 6 1 (nI 0)) I (fun k h1 _ => mset_n h1) (ct_len a3 (Nat.zero_le _)) (by decide) (fun k _ h2 => mset_n h2) (rt_len1 r (Nat.zero_le _))
      refine ⟨mc 4 1, mc', _, ?_, ?_, _, ev, dr, q2⟩
      · show (F9_textChanged (nI 1) (mset mc 4 1 (nI 0))).bind _ = _
        rw [q1]; rfl
      · rw [r.2.1, a3.1]; rfl
  · rw [if_neg d, if_neg d]
    exact ⟨_, mc, mm, rfl, rfl, T, ev, dr, I⟩
theorem ls_2 : LS_2 Inv := by
  rintro mc mm ⟨T, ev, dr, I⟩ v
  have I0 := I
  obtain ⟨⟨⟨a1, a2, -⟩, a3, a4, -⟩, c, ⟨r, -⟩, -⟩ := I0
  unfold F9_undo F10_undo
  simp only [lt]
  rw [f9_b, f10_isTwo, bb]
  by_cases d : 0 ≤ v ∧ v < 2
  · rw [if_pos d, if_pos d]
    obtain ⟨t, ht, rfl⟩ := i_of (b := 2) (by decide) d
    simp only [ckI ht (show 2 < 2 ^ 31 by decide), nI_clamp (show t < 2 ^ 31 by omega)]
    rcases (show t = 0 ∨ t = 1 by omega) with rfl | rfl
    · rw [show mc (2 + 2 * 0) 1 = nI T.1.1 from a1.1, r.1.1]
      by_cases z : T.1.1 = 0
      · rw [if_pos (show nI T.1.1 = 0 by rw [z]; rfl), if_pos (show nI T.1.1 = 0 by rw [z]; rfl)]
        exact ⟨_, mc, mm, rfl, rfl, T, ev, dr, I⟩
      · have hnz : ¬ nI T.1.1 = 0 := nI_ne0 (by omega) (by omega)
        rw [if_neg hnz, if_neg hnz, show nI T.1.1 - (1 : Int32) = nI (T.1.1 - 1) from nI_sub (b := 1) (by omega), mset_s]
        obtain ⟨mc', q1, q2, q3⟩ := m_txt0 (M1 := mset mc 2 1 (nI (T.1.1 - 1))) (mm1 := mset mm 6 0 (nI (T.1.1 - 1))) I (fun k h1 _ => mset_n h1) (ct_len a1 (by omega)) (by omega) (fun k _ h2 => mset_n h2) (rt_len0 r (by omega))
        refine ⟨nI (T.1.1 - 1), mc', _, ?_, rfl, _, ev, dr, q2⟩
        show (F9_textChanged (nI 0) (mset mc 2 1 (nI (T.1.1 - 1)))).bind _ = _
        rw [q1, Option.bind_some]
        show some (mc' 2 1, mc') = _
        rw [q3]
    · rw [show mc (2 + 2 * 1) 1 = nI T.2.1 from a3.1, r.2.1]
      by_cases z : T.2.1 = 0
      · rw [if_pos (show nI T.2.1 = 0 by rw [z]; rfl), if_pos (show nI T.2.1 = 0 by rw [z]; rfl)]
        exact ⟨_, mc, mm, rfl, rfl, T, ev, dr, I⟩
      · have hnz : ¬ nI T.2.1 = 0 := nI_ne0 (by omega) (by omega)
        rw [if_neg hnz, if_neg hnz, show nI T.2.1 - (1 : Int32) = nI (T.2.1 - 1) from nI_sub (b := 1) (by omega), mset_s]
        obtain ⟨mc', q1, q2, q3⟩ := m_txt1 (M1 := mset mc 4 1 (nI (T.2.1 - 1))) (mm1 := mset mm 6 1 (nI (T.2.1 - 1))) I (fun k h1 _ => mset_n h1) (ct_len a3 (by omega)) (by omega) (fun k _ h2 => mset_n h2) (rt_len1 r (by omega))
        refine ⟨nI (T.2.1 - 1), mc', _, ?_, rfl, _, ev, dr, q2⟩
        show (F9_textChanged (nI 1) (mset mc 4 1 (nI (T.2.1 - 1)))).bind _ = _
        rw [q1, Option.bind_some]
        show some (mc' 4 1, mc') = _
        rw [q3]
  · rw [if_neg d, if_neg d]
    exact ⟨_, mc, mm, rfl, rfl, T, ev, dr, I⟩
theorem ct_add {mc : Mem} {o n x : Nat} {b : Nat → Nat} (C : CT mc o n b) (hx : x < 256) : CT (mset (mset mc (o + 1) n (nI x)) o 1 (nI (n + 1))) o (n + 1) (setF b n x) := by
  refine ⟨mset_s _ _ _ _, fun i hi => ?_⟩
  rw [mset_n (by omega)]
  by_cases e : i = n
  · subst e; rw [mset_s, setF_s]; exact ⟨rfl, hx⟩
  · rw [mset_o e, setF_n e]; exact C.2 i (by omega)
theorem rt_add0 {mm : Mem} {T : TX} {x : Nat} (h0 : T.1.1 ≤ 22) (R : RTT mm T) : RTT (mset (mset mm 5 T.1.1 (nI x)) 6 0 (nI (T.1.1 + 1))) ((T.1.1 + 1, setF T.1.2 T.1.1 x), T.2) := by
  obtain ⟨⟨r1, r2⟩, r3, r4⟩ := R
  refine ⟨⟨mset_s _ _ _ _, fun i (hi : i < T.1.1 + 1) => ?_⟩, ?_, fun i hi => ?_⟩
  · rw [mset_n (by decide)]
    show _ = nI (setF T.1.2 T.1.1 x i)
    by_cases e : i = T.1.1
    · subst e; rw [mset_s, setF_s]
    · rw [mset_o e, setF_n e]; exact r2 i (by omega)
  · rw [mset_o (by decide), mset_n (by decide)]; exact r3
  · rw [mset_n (by decide), mset_o (by omega)]; exact r4 i hi
theorem rt_add1 {mm : Mem} {T : TX} {x : Nat} (h0 : T.1.1 ≤ 23) (R : RTT mm T) : RTT (mset (mset mm 5 (64 + T.2.1) (nI x)) 6 1 (nI (T.2.1 + 1))) (T.1, (T.2.1 + 1, setF T.2.2 T.2.1 x)) := by
  obtain ⟨⟨r1, r2⟩, r3, r4⟩ := R
  refine ⟨⟨?_, fun i (hi : i < T.1.1) => ?_⟩, mset_s _ _ _ _, fun i (hi : i < T.2.1 + 1) => ?_⟩
  · rw [mset_o (by decide), mset_n (by decide)]; exact r1
  · rw [mset_n (by decide), mset_o (by omega)]; exact r2 i hi
  · rw [mset_n (by decide)]
    show _ = nI (setF T.2.2 T.2.1 x i)
    by_cases e : i = T.2.1
    · subst e; rw [mset_s, setF_s]
    · rw [mset_o (by omega), setF_n e]; exact r4 i (by omega)
theorem f7_add {mc : Mem} {o n L : Nat} (hl : ln (o + 1) = L) (hL : L < 1000) (h : mc o 1 = nI n) (hn : n ≤ L) (x : Int32) : F7_add o x mc = if n < L then some (1, mset (mset mc (o + 1) n x) o 1 (nI (n + 1))) else some (0, mc) := by
  unfold F7_add
  simp only [lt]
  rw [hl, h, show (Int32.ofNat L) = nI L from rfl]
  have e : (mset mc (o + 1) (nI n).toNatClampNeg x) o 1 = nI n := by rw [mset_n (by omega)]; exact h
  rw [e]
  have hlt := ltI (show n < 2 ^ 31 by omega) (show L < 2 ^ 31 by omega)
  simp only [hlt]
  by_cases c : n < L
  · rw [if_pos c, if_pos c, ckI c (by omega), nI_clamp (show n < 2 ^ 31 by omega), nI_1]
  · rw [if_neg c, if_neg c]
theorem ls_0 : LS_0 Inv := by
  rintro mc mm ⟨T, ev, dr, I⟩ v x
  have I0 := I
  obtain ⟨⟨⟨a1, a2, -⟩, a3, a4, -⟩, c, ⟨r, -⟩, -⟩ := I0
  unfold F9_type F10_type F10_type_b39
  simp only [lt]
  simp only [f9_b]
  rw [f10_isTwo, bb, f10_b 256 (show (255 : Int64).toInt + 1 = (256 : Int32).toInt by decide)]
  by_cases d : 0 ≤ v ∧ v < 2
  · rw [if_pos d, if_pos d]
    by_cases dx : 0 ≤ x ∧ x < 256
    · rw [if_pos dx, if_pos dx]
      obtain ⟨t, ht, rfl⟩ := i_of (b := 2) (by decide) d
      obtain ⟨y, hy, rfl⟩ := i_of (b := 256) (by decide) dx
      simp only [ckI ht (show 2 < 2 ^ 31 by decide), nI_clamp (show t < 2 ^ 31 by omega)]
      rcases (show t = 0 ∨ t = 1 by omega) with rfl | rfl
      · rw [if_pos (show nI 0 = 0 from rfl), r.1.1]
        show ∃ r mc' mm', (F7_add 2 (nI y) mc).bind _ = _ ∧ _
        rw [f7_add (show ln (2 + 1) = 23 from rfl) (by decide) a1.1 a2]
        have e23 : (nI T.1.1 = (23 : Int32)) = (T.1.1 = 23) := ze23 (by omega)
        simp only [e23]
        by_cases z : T.1.1 < 23
        · rw [if_pos z, Option.bind_some, if_neg (show ¬ T.1.1 = 23 by omega)]
          dsimp only
          rw [if_neg (show ¬ (1 : Int32) = 0 by decide), show (64 : Int32) * nI 0 + nI T.1.1 = nI T.1.1 from by rw [show (64 : Int32) * nI 0 = nI 0 from rfl, nI_add, Nat.zero_add], ckI (show T.1.1 < 128 by omega) (by decide), nI_clamp (show T.1.1 < 2 ^ 31 by omega), show (mset mm 5 T.1.1 (nI y)) 6 0 = nI T.1.1 from by rw [mset_n (by decide)]; exact r.1.1, nI_1, mset_s]
          obtain ⟨mc', q1, q2, q3⟩ := m_txt0 (M1 := mset (mset mc (2 + 1) T.1.1 (nI y)) 2 1 (nI (T.1.1 + 1))) (mm1 := mset (mset mm 5 T.1.1 (nI y)) 6 0 (nI (T.1.1 + 1))) I (fun k h1 h2 => by rw [mset_n h1, mset_n h2]) (ct_add a1 hy) (by omega) (fun k h1 h2 => by rw [mset_n h2, mset_n h1]) (rt_add0 (by omega) r)
          refine ⟨nI (T.1.1 + 1), mc', _, ?_, rfl, _, ev, dr, q2⟩
          rw [q1, Option.bind_some]
          show some (mc' 2 1, mc') = _
          rw [q3]
        · rw [if_neg z, Option.bind_some, if_pos (show T.1.1 = 23 by omega)]
          exact ⟨_, mc, mm, rfl, rfl, T, ev, dr, I⟩
      · rw [if_neg (show ¬ nI 1 = 0 by decide), r.2.1]
        show ∃ r mc' mm', (F7_add 4 (nI y) mc).bind _ = _ ∧ _
        rw [f7_add (show ln (4 + 1) = 63 from rfl) (by decide) a3.1 a4]
        have e23 : (nI T.2.1 = (63 : Int32)) = (T.2.1 = 63) := ze63 (by omega)
        simp only [e23]
        by_cases z : T.2.1 < 63
        · rw [if_pos z, Option.bind_some, if_neg (show ¬ T.2.1 = 63 by omega)]
          dsimp only
          rw [if_neg (show ¬ (1 : Int32) = 0 by decide), show (64 : Int32) * nI 1 + nI T.2.1 = nI (64 + T.2.1) from by rw [show (64 : Int32) * nI 1 = nI 64 from rfl, nI_add], ckI (show 64 + T.2.1 < 128 by omega) (by decide), nI_clamp (show 64 + T.2.1 < 2 ^ 31 by omega), show (mset mm 5 (64 + T.2.1) (nI y)) 6 1 = nI T.2.1 from by rw [mset_n (by decide)]; exact r.2.1, nI_1, mset_s]
          obtain ⟨mc', q1, q2, q3⟩ := m_txt1 (M1 := mset (mset mc (4 + 1) T.2.1 (nI y)) 4 1 (nI (T.2.1 + 1))) (mm1 := mset (mset mm 5 (64 + T.2.1) (nI y)) 6 1 (nI (T.2.1 + 1))) I (fun k h1 h2 => by rw [mset_n h1, mset_n h2]) (ct_add a3 hy) (by omega) (fun k h1 h2 => by rw [mset_n h2, mset_n h1]) (rt_add1 a2 r)
          refine ⟨nI (T.2.1 + 1), mc', _, ?_, rfl, _, ev, dr, q2⟩
          rw [q1, Option.bind_some]
          show some (mc' 4 1, mc') = _
          rw [q3]
        · rw [if_neg z, Option.bind_some, if_pos (show T.2.1 = 63 by omega)]
          exact ⟨_, mc, mm, rfl, rfl, T, ev, dr, I⟩
    · rw [if_neg dx, if_neg dx]
      exact ⟨_, mc, mm, rfl, rfl, T, ev, dr, I⟩
  · rw [if_neg d, if_neg d]
    exact ⟨_, mc, mm, rfl, rfl, T, ev, dr, I⟩
