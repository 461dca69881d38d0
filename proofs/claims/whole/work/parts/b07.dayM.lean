/-! the reference: day -/
theorem r_puts {mm : Mem} {e : Nat} (h : mm 0 11 = nI e) (he : e < 8) (a b c : Int32) : F10_puts a b c mm = some (mset (mset (mset (mset mm 9 (3 * e) a) 9 (3 * e + 1) b) 9 (3 * e + 2) c) 0 11 (nI (e + 1))) := by
  have e1 : (mset mm 9 (3 * e) a) 0 11 = nI e := by rw [mset_n (by decide)]; exact h
  have e2 : (mset (mset mm 9 (3 * e) a) 9 (3 * e + 1) b) 0 11 = nI e := by rw [mset_n (by decide)]; exact e1
  have e3 : (mset (mset (mset mm 9 (3 * e) a) 9 (3 * e + 1) b) 9 (3 * e + 2) c) 0 11 = nI e := by rw [mset_n (by decide)]; exact e2
  obtain ⟨x1, x2, x3, x4, x5, x6⟩ := ix3 he
  unfold F10_puts
  simp only [lt]
  rw [h, x1, ckI (show 3 * e < 24 by omega) (by decide), x4, e1, x1, x2, ckI (show 3 * e + 1 < 24 by omega) (by decide), x5, e2, x1, x3, ckI (show 3 * e + 2 < 24 by omega) (by decide), x6, e3, nI_1]
theorem r_lot {mm : Mem} {s : Int32} {m : Nat} (h : mm 0 29 = s) (h0 : 0 < m) (hm : m < 2 ^ 31) : F10_lot (nI m) mm = some (nI (lotN (nxS s) m), mset mm 0 29 (nxS s)) := by
  unfold F10_lot
  simp only [lt]
  unfold nz
  rw [h, show (1103515245 : Int32) * s + 12345 = nxS s from rfl, if_neg (nI_ne0 h0 hm), mset_s, lot_eq _ h0 hm]
/-- while the day's events stand in the reference -/
def FrD (mm M : Mem) : Prop := (∀ k, ((1 ≤ k ∧ k < 10) ∨ k = 20) → k ≠ 9 → M k = mm k) ∧ (∀ i, 24 ≤ i → M 9 i = mm 9 i) ∧ (∀ i, i < 24 → M 22 i = mm 9 i) ∧ ∀ j, j ≠ 11 → j ≠ 15 → j ≠ 29 → M 0 j = mm 0 j
theorem FrD.s0 {mm M : Mem} (f : FrD mm M) {i : Nat} (v : Int32) (h : i = 11 ∨ i = 29) : FrD mm (mset M 0 i v) := ⟨fun k h1 h2 => by rw [mset_n (by omega)]; exact f.1 k h1 h2, fun j hj => by rw [mset_n (by decide)]; exact f.2.1 j hj, fun j hj => by rw [mset_n (by decide)]; exact f.2.2.1 j hj, fun j a b c => by rw [mset_o (by omega)]; exact f.2.2.2 j a b c⟩
theorem FrD.s9 {mm M : Mem} (f : FrD mm M) {i : Nat} (v : Int32) (h : i < 24) : FrD mm (mset M 9 i v) := ⟨fun k h1 h2 => by rw [mset_n h2]; exact f.1 k h1 h2, fun j hj => by rw [mset_o (by omega)]; exact f.2.1 j hj, fun j hj => by rw [mset_n (by decide)]; exact f.2.2.1 j hj, fun j a b c => by rw [mset_n (by decide)]; exact f.2.2.2 j a b c⟩
theorem FrD.frA {mm M M' : Mem} (f : FrD mm M) (g : FrA M M') : FrD mm M' := ⟨fun k h1 h2 => (g k (by omega)).trans (f.1 k h1 h2), fun j hj => by rw [g 9 (by omega)]; exact f.2.1 j hj, fun j hj => by rw [g 22 (by omega)]; exact f.2.2.1 j hj, fun j a b c => by rw [g 0 (by omega)]; exact f.2.2.2 j a b c⟩
theorem r_dayEnd {mm M : Mem} {K : KX} {s : Int32} {n : Nat} (R : RB mm K) (f : FrD mm M) (L : RLv M K.1 (dayH K s n) K.2.2.1.1 K.2.2.1.2.1) (v1 v2 v : Int32) : ∃ mm', F10_dayOf_h106 (F10_dayOf_b133 v1 v2 v) v1 v2 v FU (mm 0 11) 0 M = some (aDayOf K s n v, mm') ∧ FrB mm mm' := by
  have h8 := R.w8
  have n8 := R.n8
  refine lpF (fun m (x : Int32 × Mem) => F10_dayOf_h106 (F10_dayOf_b133 v1 v2 v) v1 v2 v m (mm 0 11) x.1 x.2) (fun i x => x.1 = nI i ∧ FrD mm x.2 ∧ RLv x.2 K.1 (dayH K s n) K.2.2.1.1 K.2.2.1.2.1 ∧ ∀ j, j < i → x.2 9 j = mm 9 j) (fun r => ∃ mm', r = some (aDayOf K s n v, mm') ∧ FrB mm mm') 24 (by decide) ?_ ?_ (0, M) ⟨rfl, f, L, fun j hj => by omega⟩
  · rintro m i ⟨x, M1⟩ hi ⟨e1, f1, L1, c⟩
    dsimp only at e1 f1 L1 c
    subst e1
    left
    refine ⟨(nI (i + 1), mset M1 9 i (mm 9 i)), ?_, rfl, f1.s9 _ hi, L1.ag (by dsimp only; rw [mset_n (by decide)]) (fun k h1 _ => mset_n (by omega)), fun j hj => ?_⟩
    · show F10_dayOf_p106 _ _ v1 v2 v (mm 0 11) (nI i) M1 = _
      unfold F10_dayOf_p106
      rw [if_neg (show ¬ (24 : Int32) ≤ nI i from nI_ge (b := 24) hi (by decide)), ckI hi (by decide), ckI hi (by decide), nI_clamp (show i < 2 ^ 31 by omega), f1.2.2.1 i hi, nI_1]
    · dsimp only
      by_cases e : j = i
      · subst e; rw [mset_s]
      · rw [mset_o e]; exact c j (by omega)
  · rintro m ⟨x, M1⟩ ⟨e1, f1, L1, c⟩
    dsimp only at e1 f1 L1 c
    have f2 := f1.s0 (mm 0 11) (Or.inl rfl)
    have L2 : RLv (mset M1 0 11 (mm 0 11)) K.1 (dayH K s n) K.2.2.1.1 K.2.2.1.2.1 := L1.ag (mset_o (by decide)) (fun k h1 _ => mset_n (by omega))
    have w2 : MW (mset M1 0 11 (mm 0 11)) K.1.1 K.1.2.1 K.1.2.2 := R.1.congr (f2.2.2.2 7 (by decide) (by decide) (by decide)) (f2.1 7 (by omega) (by decide))
    have back : FrB mm (mset M1 0 11 (mm 0 11)) := ⟨fun k hk => by
        by_cases e : k = 9
        · subst e
          funext j
          rw [mset_n (by decide)]
          by_cases d : j < 24
          · exact c j d
          · exact f1.2.1 j (by omega)
        · exact f2.1 k hk e, fun j a b => by
        by_cases e : j = 11
        · subst e; rw [mset_s]
        · exact f2.2.2.2 j e a b⟩
    refine ⟨mset M1 0 11 (mm 0 11), ?_, back⟩
    show F10_dayOf_p106 _ _ v1 v2 v (mm 0 11) x M1 = _
    unfold F10_dayOf_p106 F10_dayOf_b133 aDayOf
    simp only [lt]
    rw [e1, if_pos (show (24 : Int32) ≤ nI 24 by decide)]
    by_cases z : v = 0
    · rw [if_pos z, if_pos z, r_gone L2, Option.bind_some, bits_ones _ n8, Option.bind_some]
    · rw [if_neg z, if_neg z, w2.2.1, f10_last w2]
      cases hl : laW K.1 with
      | none =>
        have h0 : K.1.1 = 0 := by
          rcases Nat.eq_zero_or_pos K.1.1 with h | h
          · exact h
          · obtain ⟨j, hj⟩ := laS_some (ht := K.1.2.2) h
            rw [show laS K.1.2.2 K.1.1 = laW K.1 from rfl, hl] at hj; cases hj
        rw [if_pos (by rw [h0]; rfl)]
      | some l =>
        have hlt := laW_lt hl
        rw [if_neg (nI_ne0 (by omega) (by omega)), show laS K.1.2.2 K.1.1 = some l from hl, Option.bind_some, show en (some l) = nI l from rfl, r_hears L2 (by omega), Option.bind_some, bits_ones _ n8, Option.bind_some]
theorem r_dayMid {mm M : Mem} {K : KX} {s : Int32} {n : Nat} (R : RB mm K) (hn : n ≤ 8) (f0 : FrD mm M) (g0 : M 0 11 = nI 0) (s0 : M 0 29 = s) (v : Int32) : ∃ mm', F10_dayOf_h49 (F10_dayOf_b99 s (nI n) v) s (nI n) v FU (mm 0 11) 0 M = some (aDayOf K s n v, mm') ∧ FrB mm mm' := by
  have h8 := R.w8
  have n8 := R.n8
  have hN : dayN K n ≤ n := by unfold dayN; split <;> omega
  refine lpF (fun m (x : Int32 × Mem) => F10_dayOf_h49 (F10_dayOf_b99 s (nI n) v) s (nI n) v m (mm 0 11) x.1 x.2) (fun e x => x.1 = nI e ∧ FrD mm x.2 ∧ x.2 0 11 = nI e ∧ x.2 0 29 = sdI s (3 * e) ∧ ∀ i, i < e → (x.2 9 (3 * i) = nI ((dayE K.1.1 s).1 i) ∧ x.2 9 (3 * i + 1) = nI ((dayE K.1.1 s).2.1 i) ∧ x.2 9 (3 * i + 2) = nI ((dayE K.1.1 s).2.2 i))) (fun r => ∃ mm', r = some (aDayOf K s n v, mm') ∧ FrB mm mm') (dayN K n) (by omega) ?_ ?_ (0, M) ⟨rfl, f0, g0, s0, fun i hi => by omega⟩
  · rintro m e ⟨x, M1⟩ he ⟨e1, f, g, sd, c⟩
    dsimp only at e1 f g sd c
    subst e1
    left
    have hw : 0 < K.1.1 := by
      rcases Nat.eq_zero_or_pos K.1.1 with h | h
      · unfold dayN at he; rw [if_pos h] at he; omega
      · exact h
    have m7 : ∀ X : Mem, FrD mm X → X 0 7 = nI K.1.1 := fun X fX => (fX.2.2.2 7 (by decide) (by decide) (by decide)).trans R.1.2.1
    have q1 := r_lot (m := 3) sd (by decide) (by decide)
    have f1 := f.s0 (nxS (sdI s (3 * e))) (Or.inr rfl)
    have q2 := r_lot (mm := mset M1 0 29 (nxS (sdI s (3 * e)))) (m := 40) (mset_s _ _ _ _) (by decide) (by decide)
    have f2 := f1.s0 (nxS (nxS (sdI s (3 * e)))) (Or.inr rfl)
    have q3 := r_lot (mm := mset (mset M1 0 29 (nxS (sdI s (3 * e)))) 0 29 (nxS (nxS (sdI s (3 * e))))) (m := K.1.1) (mset_s _ _ _ _) hw (by omega)
    have f3 := f2.s0 (nxS (nxS (nxS (sdI s (3 * e))))) (Or.inr rfl)
    have g3 : (mset (mset (mset M1 0 29 (nxS (sdI s (3 * e)))) 0 29 (nxS (nxS (sdI s (3 * e))))) 0 29 (nxS (nxS (nxS (sdI s (3 * e)))))) 0 11 = nI e := by rw [mset_o (by decide), mset_o (by decide), mset_o (by decide)]; exact g
    have h9 : (mset (mset (mset M1 0 29 (nxS (sdI s (3 * e)))) 0 29 (nxS (nxS (sdI s (3 * e))))) 0 29 (nxS (nxS (nxS (sdI s (3 * e)))))) 9 = M1 9 := by rw [mset_n (by decide), mset_n (by decide), mset_n (by decide)]
    have s3 : (mset (mset (mset M1 0 29 (nxS (sdI s (3 * e)))) 0 29 (nxS (nxS (sdI s (3 * e))))) 0 29 (nxS (nxS (nxS (sdI s (3 * e)))))) 0 29 = sdI s (3 * (e + 1)) := by rw [mset_s]; rfl
    have m72 := m7 _ f2
    have e11 : e < 8 := by omega
    generalize mset (mset (mset M1 0 29 (nxS (sdI s (3 * e)))) 0 29 (nxS (nxS (sdI s (3 * e))))) 0 29 (nxS (nxS (nxS (sdI s (3 * e))))) = M3 at *
    have q4 := r_puts g3 e11 (nI (lotN (nxS (sdI s (3 * e))) 3)) (nI (lotN (nxS (nxS (sdI s (3 * e)))) 40)) (nI (lotN (nxS (nxS (nxS (sdI s (3 * e))))) K.1.1))
    refine ⟨(nI (e + 1), mset (mset (mset (mset M3 9 (3 * e) (nI (lotN (nxS (sdI s (3 * e))) 3))) 9 (3 * e + 1) (nI (lotN (nxS (nxS (sdI s (3 * e)))) 40))) 9 (3 * e + 2) (nI (lotN (nxS (nxS (nxS (sdI s (3 * e))))) K.1.1))) 0 11 (nI (e + 1))), ?_, rfl, (((f3.s9 _ (by omega)).s9 _ (by omega)).s9 _ (by omega)).s0 _ (Or.inl rfl), ?_, ?_, fun i hi => ?_⟩
    · show F10_dayOf_p49 _ _ s (nI n) v (mm 0 11) (nI e) M1 = _
      unfold F10_dayOf_p49
      rw [if_neg (nI_ge (show e < n by omega) (by omega)), m7 _ f, if_neg (nI_nle hw (by omega)), show (3 : Int32) = nI 3 from rfl, q1, Option.bind_some, show (40 : Int32) = nI 40 from rfl, q2, Option.bind_some]
      dsimp only
      rw [m72, q3, Option.bind_some]
      dsimp only
      rw [q4, Option.bind_some, nI_1]
    · dsimp only; rw [mset_s]
    · dsimp only; rw [mset_o (by decide), mset_n (by decide), mset_n (by decide), mset_n (by decide)]; exact s3
    · dsimp only
      rw [mset_n (show 9 ≠ 0 by decide)]
      by_cases ei : i = e
      · subst ei
        refine ⟨?_, ?_, ?_⟩
        · rw [mset_o (by omega), mset_o (by omega), mset_s]; rfl
        · rw [mset_o (by omega), mset_s]; rfl
        · rw [mset_s]; rfl
      · obtain ⟨c1, c2, c3⟩ := c i (by omega)
        refine ⟨?_, ?_, ?_⟩
        · rw [mset_o (by omega), mset_o (by omega), mset_o (by omega), h9]; exact c1
        · rw [mset_o (by omega), mset_o (by omega), mset_o (by omega), h9]; exact c2
        · rw [mset_o (by omega), mset_o (by omega), mset_o (by omega), h9]; exact c3
  · rintro m ⟨x, M1⟩ ⟨e1, f, g, sd, c⟩
    dsimp only at e1 f g sd c
    have hV : RV M1 K.1 (dayH K s n) K.2.2.1.1 K.2.2.1.2.1 := by
      refine ⟨R.1.congr (f.2.2.2 7 (by decide) (by decide) (by decide)) (f.1 7 (by omega) (by decide)), mh_of ?_ ((f.2.2.2 14 (by decide) (by decide) (by decide)).trans R.2.2.1.2), ⟨n8, (f.2.2.2 9 (by decide) (by decide) (by decide)).trans R.2.2.2.1.1.2.1, fun p hp => (R.2.2.2.1.1.2.2 p hp).congr (f.1 8 (by omega) (by decide))⟩, R.2.2.2.1.2.1⟩
      refine ⟨by omega, g, ⟨0, by decide, (f.2.2.2 13 (by decide) (by decide) (by decide)).trans R.2.2.1.1, fun i _ => by rw [Nat.zero_testBit]; rfl⟩, fun i hi => ⟨c i hi, lotN_lt _ (by decide), lotN_lt _ (by decide), ?_⟩⟩
      have hw : 0 < K.1.1 := by
        rcases Nat.eq_zero_or_pos K.1.1 with h | h
        · unfold dayN at hi; rw [if_pos h] at hi; omega
        · exact h
      have := lotN_lt (sdI s (3 * i + 3)) hw
      show lotN (sdI s (3 * i + 3)) K.1.1 < 8
      omega
    obtain ⟨M2, q1, q2, -, q4⟩ := hV.lives
    obtain ⟨mm', p1, p2⟩ := r_dayEnd R (f.frA q2) q4 s (nI n) v
    refine ⟨mm', ?_, p2⟩
    have key : F10_dayOf_b99 s (nI n) v (mm 0 11) M1 = some (aDayOf K s n v, mm') := by
      unfold F10_dayOf_b99
      rw [q1, Option.bind_some]
      exact p1
    show F10_dayOf_p49 _ _ s (nI n) v (mm 0 11) x M1 = _
    unfold F10_dayOf_p49
    rw [key, e1]
    by_cases z : K.1.1 = 0
    · rw [show M1 0 7 = 0 from by rw [(f.2.2.2 7 (by decide) (by decide) (by decide)).trans R.1.2.1, z]; rfl, if_pos (show (0 : Int32) ≤ 0 by decide)]
      split <;> rfl
    · rw [if_pos (nI_le (show n ≤ dayN K n by unfold dayN; rw [if_neg z]; omega) (by omega))]
theorem r_dayOf {mm : Mem} {K : KX} (R : RB mm K) (s : Int32) {n : Nat} (hn : n ≤ 8) (v : Int32) : ∃ mm', F10_dayOf s (nI n) v mm = some (aDayOf K s n v, mm') ∧ FrB mm mm' := by
  unfold F10_dayOf
  refine lpF (fun m (x : Int32 × Mem) => F10_dayOf_h9 (F10_dayOf_b36 s (nI n) v) s (nI n) v m (mm 0 11) x.1 x.2) (fun i x => x.1 = nI i ∧ FI 22 23 mm x.2 ∧ ∀ j, j < i → x.2 22 j = mm 9 j) (fun r => ∃ mm', r = some (aDayOf K s n v, mm') ∧ FrB mm mm') 24 (by decide) ?_ ?_ (0, mm) ⟨rfl, FI.refl _ _ _, fun j hj => by omega⟩
  · rintro m i ⟨x, M1⟩ hi ⟨e1, f1, c⟩
    dsimp only at e1 f1 c
    subst e1
    left
    refine ⟨(nI (i + 1), mset M1 22 i (mm 9 i)), ?_, rfl, f1.set _ _ _ (by omega), fun j hj => ?_⟩
    · show F10_dayOf_p9 _ _ s (nI n) v (mm 0 11) (nI i) M1 = _
      unfold F10_dayOf_p9
      rw [if_neg (show ¬ (24 : Int32) ≤ nI i from nI_ge (b := 24) hi (by decide)), ckI hi (by decide), ckI hi (by decide), nI_clamp (show i < 2 ^ 31 by omega), f1 9 (by omega), nI_1]
    · dsimp only
      by_cases e : j = i
      · subst e; rw [mset_s]
      · rw [mset_o e]; exact c j (by omega)
  · rintro m ⟨x, M1⟩ ⟨e1, f1, c⟩
    dsimp only at e1 f1 c
    have fD : FrD mm M1 := ⟨fun k h1 _ => f1 k (by omega), fun i _ => by rw [f1 9 (by omega)], c, fun j _ _ _ => by rw [f1 0 (by omega)]⟩
    obtain ⟨mm', p1, p2⟩ := r_dayMid (M := mset (mset M1 0 29 s) 0 11 0) (s := s) R hn ((fD.s0 s (Or.inr rfl)).s0 0 (Or.inl rfl)) (mset_s _ _ _ _) (by rw [mset_o (by decide), mset_s]) v
    refine ⟨mm', ?_, p2⟩
    show F10_dayOf_p9 _ _ s (nI n) v (mm 0 11) x M1 = _
    unfold F10_dayOf_p9 F10_dayOf_b36
    rw [e1, if_pos (show (24 : Int32) ≤ nI 24 by decide)]
    exact p1
