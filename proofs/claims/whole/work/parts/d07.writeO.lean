/-! what a saying's path writes on a sheet -/
theorem w9_loop {mc : Mem} {s p fo n m : Nat} (hs : s < 4) (hp : p < 8) (hf : fo < 3) (hn : n ≤ 60) (hm : m ≤ 40) (mn : m ≤ n) (k1 : mc (26 + 2 * s) 1 = nI fo) (k3 : mc (26 + 2 * s) 2 = nI n) : ∃ M, F9_write_h65 (nI p) (nI s) FU (nI m) 0 mc = some (nI m, M) ∧ (∀ k, k ≠ 27 + 2 * s → M k = mc k) ∧ (∀ h, h < m → M (27 + 2 * s) h = cutV fo (mc (40 + 5 * p) h)) ∧ ∀ h, m ≤ h → M (27 + 2 * s) h = mc (27 + 2 * s) h := by
  refine lpF (fun g (x : Int32 × Mem) => F9_write_h65 (nI p) (nI s) g (nI m) x.1 x.2) (fun a x => x.1 = nI a ∧ (∀ k, k ≠ 27 + 2 * s → x.2 k = mc k) ∧ (∀ h, h < a → x.2 (27 + 2 * s) h = cutV fo (mc (40 + 5 * p) h)) ∧ ∀ h, a ≤ h → x.2 (27 + 2 * s) h = mc (27 + 2 * s) h) (fun r => ∃ M, r = some (nI m, M) ∧ (∀ k, k ≠ 27 + 2 * s → M k = mc k) ∧ (∀ h, h < m → M (27 + 2 * s) h = cutV fo (mc (40 + 5 * p) h)) ∧ ∀ h, m ≤ h → M (27 + 2 * s) h = mc (27 + 2 * s) h) m (by omega) ?_ ?_ (0, mc) ⟨rfl, fun _ _ => rfl, fun h hh => by omega, fun _ _ => rfl⟩
  · rintro g a ⟨x, M⟩ ha ⟨e1, f, c, d⟩
    dsimp only at e1 f c d
    subst e1
    left
    refine ⟨(nI (a + 1), mset M (27 + 2 * s) a (cutV fo (mc (40 + 5 * p) a))), ?_, rfl, fun k hk => by dsimp only; rw [mset_n hk]; exact f k hk, fun b hb => ?_, fun b hb => by dsimp only; rw [mset_o (by omega)]; exact d b (by omega)⟩
    · show F9_write_p65 _ _ _ _ (nI a) M = _
      unfold F9_write_p65
      rw [if_neg (nI_ge ha (by omega)), ckI hs (by decide), ckI hp (by decide), ckI (show a < 40 by omega) (by decide), nI_clamp (show a < 2 ^ 31 by omega), nI_clamp (show s < 2 ^ 31 by omega), nI_clamp (show p < 2 ^ 31 by omega), f6_put hs hf hn (show a < n by omega) (by rw [f _ (by omega)]; exact k1) (by rw [f _ (by omega)]; exact k3), Option.bind_some, nI_1, f (39 + 5 * p + 1) (by omega), show 39 + 5 * p + 1 = 40 + 5 * p by omega]
    · dsimp only
      by_cases e : b = a
      · subst e; rw [mset_s]
      · rw [mset_o e]; exact c b (by omega)
  · rintro g ⟨x, M⟩ ⟨e1, f, c, d⟩
    dsimp only at e1 f c d
    subst e1
    refine ⟨M, ?_, f, c, d⟩
    show F9_write_p65 _ _ _ _ _ _ = _
    unfold F9_write_p65
    rw [if_pos (nI_le (Nat.le_refl _) (by omega))]
theorem w10_loop {mm : Mem} {s p fo m : Nat} {q : Nat → Int32} (hs : s < 4) (hp : p < 8) (hf : fo < 3) (hm : m ≤ 40) (k2 : mm 1 s = nI fo) (hq : ∀ h, h < m → mm 16 (8 * h + p) = q h) : ∃ M, F10_write_h52 (nI p) (nI s) FU (nI m) 0 mm = some (nI m, M) ∧ (∀ k, k ≠ 3 → M k = mm k) ∧ (∀ h, h < m → M 3 (60 * s + h) = cutV fo (q h)) ∧ ∀ i, (i < 60 * s ∨ 60 * s + m ≤ i) → M 3 i = mm 3 i := by
  refine lpF (fun g (x : Int32 × Mem) => F10_write_h52 (nI p) (nI s) g (nI m) x.1 x.2) (fun a x => x.1 = nI a ∧ (∀ k, k ≠ 3 → x.2 k = mm k) ∧ (∀ h, h < a → x.2 3 (60 * s + h) = cutV fo (q h)) ∧ ∀ i, (i < 60 * s ∨ 60 * s + a ≤ i) → x.2 3 i = mm 3 i) (fun r => ∃ M, r = some (nI m, M) ∧ (∀ k, k ≠ 3 → M k = mm k) ∧ (∀ h, h < m → M 3 (60 * s + h) = cutV fo (q h)) ∧ ∀ i, (i < 60 * s ∨ 60 * s + m ≤ i) → M 3 i = mm 3 i) m (by omega) ?_ ?_ (0, mm) ⟨rfl, fun _ _ => rfl, fun h hh => by omega, fun _ _ => rfl⟩
  · rintro g a ⟨x, M⟩ ha ⟨e1, f, c, d⟩
    dsimp only at e1 f c d
    subst e1
    left
    refine ⟨(nI (a + 1), mset M 3 (60 * s + a) (cutV fo (q a))), ?_, rfl, fun k hk => by dsimp only; rw [mset_n hk]; exact f k hk, fun b hb => ?_, fun b hb => by dsimp only; rw [mset_o (by omega)]; exact d b (by omega)⟩
    · show F10_write_p52 _ _ _ _ (nI a) M = _
      unfold F10_write_p52
      rw [if_neg (nI_ge ha (by omega)), zm8, zm60, nI_add, nI_add, ckI hs (by decide), ckI (show 8 * a + p < 320 by omega) (by decide), nI_clamp (show s < 2 ^ 31 by omega), nI_clamp (show 8 * a + p < 2 ^ 31 by omega), f 1 (by decide), f 16 (by decide), k2, hq a ha, f10_cut hf, Option.bind_some, ckI (show 60 * s + a < 240 by omega) (by decide), nI_clamp (show 60 * s + a < 2 ^ 31 by omega), nI_1]
    · dsimp only
      by_cases e : b = a
      · subst e; rw [mset_s]
      · rw [mset_o (by omega)]; exact c b (by omega)
  · rintro g ⟨x, M⟩ ⟨e1, f, c, d⟩
    dsimp only at e1 f c d
    subst e1
    refine ⟨M, ?_, f, c, d⟩
    show F10_write_p52 _ _ _ _ _ _ = _
    unfold F10_write_p52
    rw [if_pos (nI_le (Nat.le_refl _) (by omega))]
theorem ls_31 : LS_31 Inv := by
  rintro mc mm ⟨T, ev, dr, I⟩ v1 v2
  obtain ⟨M, f1, f2, B, L⟩ := I.find
  obtain ⟨mc', c1, c2, c3, -, -⟩ := f9_refresh I.2.1
  have n8 := B.n8
  have J := I.q c2 c3.ci f2
  have e5 : mc 11 5 = nI (KT T ev dr).2.2.1.1 := I.2.1.1.2.2.1.2.1
  unfold F9_write F10_write
  rw [f1, Option.bind_some, e5, f9_b, f10_isSayingX B, bb, f9_b, f10_isSheet, bb]
  by_cases d1 : 0 ≤ v1 ∧ v1 < nI (KT T ev dr).2.2.1.1
  · rw [if_pos d1, if_pos d1]
    by_cases d2 : 0 ≤ v2 ∧ v2 < 4
    · rw [if_pos d2, if_pos d2]
      obtain ⟨p, hp, rfl⟩ := i_of (by omega) d1
      obtain ⟨s, hs, rfl⟩ := i_of (b := 4) (by decide) d2
      have sheet : mc' (26 + 2 * s) = mc (26 + 2 * s) := c2.1 _ (by omega) (by omega)
      simp only [ckI hs (show 4 < 2 ^ 31 by decide), nI_clamp (show s < 2 ^ 31 by omega)]
      rcases f6_lost I.2.2.2.1 hs with ⟨h1, h2⟩ | ⟨fo, n, hf, hn, h1, h2, k1, k2, k3, k4, k5⟩
      · rw [h1, Option.bind_some, if_neg (show ¬ (1 : Int32) = 0 by decide), if_neg (show ¬ 0 ≤ M 1 s by rw [f2.1 1 (by omega)]; exact h2), fnd9, fnd10]
        exact ⟨_, _, _, rfl, rfl, T, ev, dr, (I.q (FC.refl mc) I.2.1 f2).fnd 1⟩
      · have k1' : mc' (26 + 2 * s) 1 = nI fo := by rw [sheet]; exact k1
        have k3' : mc' (26 + 2 * s) 2 = nI n := by rw [sheet]; exact k3
        have k2' : M 1 s = nI fo := by rw [f2.1 1 (by omega)]; exact k2
        have k4' : M 2 s = nI n := by rw [f2.1 2 (by omega)]; exact k4
        rw [h1, Option.bind_some, if_pos rfl, if_pos (show 0 ≤ M 1 s by rw [f2.1 1 (by omega)]; exact h2), c1, Option.bind_some, k3', k4']
        obtain ⟨m, hm, mn, e9, e10⟩ : ∃ m, m ≤ 40 ∧ m ≤ n ∧ (if (40 : Int32) < nI n then (40 : Int32) else nI n) = nI m ∧ F10_lesser (nI n) 40 = some (nI m) := by
          unfold F10_lesser
          by_cases z : 40 < n
          · exact ⟨40, by omega, by omega, if_pos (nI_lt (a := 40) z (by omega)), if_pos (nI_le (a := 40) (by omega) (by omega))⟩
          · by_cases y : n = 40
            · subst y; exact ⟨40, by omega, by omega, by decide, by decide⟩
            · exact ⟨n, by omega, by omega, if_neg (by rw [zt40 (by omega)]; omega), if_neg (by rw [zl40 (by omega)]; omega)⟩
        rw [e9, e10, Option.bind_some]
        obtain ⟨A, a1, a2, a3, a4⟩ := w9_loop hs (show p < 8 by omega) hf hn hm mn k1' k3'
        obtain ⟨C, b1, b2, b3, b4⟩ := w10_loop (q := fun h => en (lifS (KT T ev dr).1 (H0 (KT T ev dr)) ((KT T ev dr).2.2.1.2.1 p) (h + 1)).1) hs (show p < 8 by omega) hf hm k2' (fun h hh => by
          obtain ⟨h8, n8, hn, l, L⟩ := L
          exact ((L p hp).2 h (by omega)).1)
        refine ⟨nI m, A, C, a1, b1, T, ev, dr, J.sh (fun k hk => a2 k (by omega)) (fun k hk => b2 k (by omega)) (J.2.2.2.1.one hs (fun k h1 h2 => a2 k h2) (fun q _ => ⟨by rw [b2 1 (by decide)], by rw [b2 2 (by decide)]⟩) (fun q hq => b4 q (by omega)) ⟨some fo, n, hn, fun x hx => by cases hx; exact hf, ?_, ?_, fun _ => ⟨?_, ?_, fun q hq => ?_⟩⟩)⟩
        · rw [a2 _ (by omega)]; exact k1'
        · rw [b2 1 (by decide)]; exact k2'
        · rw [a2 _ (by omega)]; exact k3'
        · rw [b2 2 (by decide)]; exact k4'
        · by_cases y : q < m
          · rw [a3 q y, b3 q y, show mc' (40 + 5 * p) q = en (lifS (KT T ev dr).1 (H0 (KT T ev dr)) ((KT T ev dr).2.2.1.2.1 p) (q + 1)).1 from by
              have := ((c3.2.1.2 p hp).1 q (by omega)).1
              rw [show 40 + 5 * p = 39 + 5 * p + 1 by omega]; exact this]
          · rw [a4 q (by omega), b4 _ (by omega), c2.1 _ (by omega) (by omega), f2.1 3 (by omega)]
            exact k5 q hq
    · rw [if_neg d2, if_neg d2]
      exact ⟨_, mc, M, rfl, rfl, T, ev, dr, I.q (FC.refl mc) I.2.1 f2⟩
  · rw [if_neg d1, if_neg d1]
    exact ⟨_, mc, M, rfl, rfl, T, ev, dr, I.q (FC.refl mc) I.2.1 f2⟩
