/-! the reference: an hour passes, one saying's life -/
theorem stepS_read {W : KW} {H : KH} {S : KS} {h : Nat} {X : ST} (e : S.1 = h) : stepS W H S h X = if S.2.1 < W.1 ∧ H.1 h S.2.1 = false then ((some S.2.1, h, X.2.2), false) else (lossS X, false) := by unfold stepS; exact if_pos e
theorem stepS_none {W : KW} {H : KH} {S : KS} {h : Nat} {X : ST} (e : ¬ S.1 = h) (hX : X.1 = none) : stepS W H S h X = (X, false) := by unfold stepS; rw [if_neg e, hX]
theorem stepS_some {W : KW} {H : KH} {S : KS} {h k : Nat} {X : ST} (e : ¬ S.1 = h) (hX : X.1 = some k) : stepS W H S h X = if H.2.2 h = true ∧ laW W ≠ some k then
      (match laW W with
      | none => (lossS X, false)
      | some j => if H.1 h j then (lossS X, false) else comeS W (S.2.2.1 == 1) h j X)
    else if h = X.2.1 + stayS W.2.1 k then goesS W H (S.2.2.1 == 1) h k X
    else (X, false) := by unfold stepS; rw [if_neg e, hX]; rfl
theorem XO.mono {nw h : Nat} {X : ST} (O : XO nw h X) : XO nw (h + 1) X := ⟨O.1, by have := O.2.1; omega, by have := O.2.2.1; omega, by have := O.2.2.2.1; omega, O.2.2.2.2⟩
theorem goesS_O {W : KW} {H : KH} {wood : Bool} {h k : Nat} {X : ST} (hX : X.1 = some k) (O : XO W.1 h X) : XO W.1 (h + 1) (goesS W H wood h k X).1 := by
  unfold goesS
  cases hg : goW W (H.2.1 h k) k with
  | none => exact ⟨fun j hj => by cases hj; exact O.1 k hX, Nat.le_succ h, (O.mono).2.2⟩
  | some j =>
    dsimp only
    cases hs : skW W (H.2.1 h k) (H.1 h) (some j) with
    | none => exact lossS_O O.mono
    | some i => exact comeS_O (skp_lt (goW_lt hg) hs).1 O
theorem laW_lt {W : KW} {j : Nat} (h : laW W = some j) : j < W.1 := laS_lt (show laS W.2.2 W.1 = some j from h)
theorem stepS_O {W : KW} {H : KH} {S : KS} {h : Nat} {X : ST} (O : XO W.1 h X) (hr : S.1 = h → 1 ≤ X.2.2.2.2) : XO W.1 (h + 1) (stepS W H S h X).1 := by
  by_cases e : S.1 = h
  · rw [stepS_read e]
    split
    · rename_i c
      exact ⟨fun j hj => by cases hj; exact ⟨c.1, hr e⟩, Nat.le_succ h, (O.mono).2.2⟩
    · exact lossS_O O.mono
  · cases hX : X.1 with
    | none => rw [stepS_none e hX]; exact O.mono
    | some k =>
      rw [stepS_some e hX]
      split
      · cases hl : laW W with
        | none => exact lossS_O O.mono
        | some j =>
          dsimp only
          split
          · exact lossS_O O.mono
          · exact comeS_O (laW_lt hl) O
      · split
        · exact goesS_O hX O
        · exact O.mono
theorem stayS_le (st : Nat → Nat) (k : Nat) : stayS st k ≤ 2 := by unfold stayS; split <;> omega
theorem sub_eqI {h t s : Nat} (hh : h < 2 ^ 30) (ht : t < 2 ^ 30) (hs : s < 2 ^ 30) : (nI h - nI t = nI s) = (h = t + s) := by
  apply propext
  rw [← Int32.toInt_inj, pk_sub_toInt hh ht, nI_toInt (show s < 2 ^ 31 by omega)]
  omega
theorem f10_stay {mm : Mem} {W : KW} {H : KH} (M : MW mm W.1 W.2.1 W.2.2) (G : MH mm H) {p h k : Nat} {S : KS} {X : ST} (hp : p < 8) (hh : h < 40) (P : SP mm p S) (Y : SX mm p X) (O : XO W.1 h X) (hX : X.1 = some k) : ∃ mm', F10_passes_b109 (nI h) (nI p) mm = some (b2i (if h = X.2.1 + stayS W.2.1 k then goesS W H (S.2.2.1 == 1) h k X else (X, false)).2, mm') ∧ Fr p mm mm' ∧ SX mm' p (if h = X.2.1 + stayS W.2.1 k then goesS W H (S.2.2.1 == 1) h k X else (X, false)).1 := by
  have h8 := M.1
  obtain ⟨k1, k2⟩ := O.1 k hX
  have o2 := O.2.1
  have y1 : mm 10 p = nI k := by rw [Y.1, hX]; rfl
  have y2 : mm 11 p = nI X.2.1 := Y.2.1 k hX
  obtain ⟨w1, -, w3, -⟩ := M.2.2 k k1
  obtain ⟨x1, x2, x3, x4⟩ := ix2 (show k < 8 by omega)
  have hb : ∀ s, s < 2 ^ 30 → s = stayS W.2.1 k → ∃ mm', F10_passes_b139 (nI h) (nI p) (nI h - nI X.2.1) (nI s) mm = some (b2i (if h = X.2.1 + stayS W.2.1 k then goesS W H (S.2.2.1 == 1) h k X else (X, false)).2, mm') ∧ Fr p mm mm' ∧ SX mm' p (if h = X.2.1 + stayS W.2.1 k then goesS W H (S.2.2.1 == 1) h k X else (X, false)).1 := by
    intro s hs e
    unfold F10_passes_b139 F10_passes_b155
    simp only [sub_eqI (show h < 2 ^ 30 by omega) (show X.2.1 < 2 ^ 30 by omega) hs]
    rw [← e]
    by_cases c : h = X.2.1 + s
    · rw [if_pos c, if_pos c]
      obtain ⟨mm', r1, r2, r3⟩ := f10_goes M G hp hh P Y O hX
      refine ⟨mm', ?_, r2, r3⟩
      rw [r1]
      show (if b2i _ = 0 then _ else _) = _
      cases (goesS W H (S.2.2.1 == 1) h k X).2 <;> rfl
    · rw [if_neg c, if_neg c]
      exact ⟨mm, rfl, Fr.refl p mm, Y⟩
  unfold F10_passes_b109
  simp only [ckI hp (by decide), nI_clamp (show p < 2 ^ 31 by omega), y1, y2, x1, x3, ckI (show 2 * k < 16 by omega) (by decide), w1]
  by_cases c : W.2.1 k = 2
  · rw [if_pos (show nI (W.2.1 k) = 2 by rw [c]; rfl)]
    exact hb 2 (by decide) (by unfold stayS; rw [if_pos c])
  · rw [if_neg (show ¬ nI (W.2.1 k) = 2 from fun z => c ((nI_eq (b := 2) (by omega) (by decide)).mp z))]
    exact hb 1 (by decide) (by unfold stayS; rw [if_neg c])
theorem f10_passes {mm : Mem} {W : KW} {H : KH} (M : MW mm W.1 W.2.1 W.2.2) (G : MH mm H) {p h : Nat} {S : KS} {X : ST} (hp : p < 8) (hh : h < 40) (P : SP mm p S) (Y : SX mm p X) (O : XO W.1 h X) : ∃ mm', F10_passes (nI h) (nI p) mm = some (b2i (stepS W H S h X).2, mm') ∧ Fr p mm mm' ∧ SX mm' p (stepS W H S h X).1 := by
  have h8 := M.1
  obtain ⟨⟨s1, s2, s3, s4⟩, l1, l2, l3, l4, l5⟩ := id P
  have e0 : (8 : Int32) * nI p = nI (8 * p) := pk_mul 8 p
  have e1 : nI (8 * p) + (1 : Int32) = nI (8 * p + 1) := nI_1 _
  unfold F10_passes F10_passes_b42
  simp only [e0, e1, ckI hp (by decide), nI_clamp (show p < 2 ^ 31 by omega), ckI (show 8 * p < 64 by omega) (by decide), ckI (show 8 * p + 1 < 64 by omega) (by decide), nI_clamp (show 8 * p < 2 ^ 31 by omega), nI_clamp (show 8 * p + 1 < 2 ^ 31 by omega), s1, s2, f10_isWell M (show S.2.1 < 2 ^ 31 by omega), mh_cov G hh l2, f10_loses hp, Option.bind_some, f10_last M, mh_dry G hh, Y.1]
  by_cases e : S.1 = h
  · rw [stepS_read e, if_pos (by rw [e])]
    by_cases c1 : S.2.1 < W.1
    · rw [decide_eq_true c1, if_neg (by decide)]
      cases c2 : H.1 h S.2.1 with
      | true =>
        rw [if_neg (by decide), if_neg (by rintro ⟨-, z⟩; cases z)]
        exact ⟨_, rfl, lossM_fr p mm, lossM_S Y⟩
      | false =>
        rw [if_pos (show b2i false = 0 from rfl), if_pos ⟨c1, rfl⟩]
        refine ⟨_, rfl, ((Fr.refl p mm).set _ (by decide) (by decide)).set _ (by decide) (by decide), ?_⟩
        obtain ⟨q1, q2, q3, q4, q5, q6⟩ := Y
        refine ⟨?_, fun j _ => ?_, ?_, ?_, ?_, ?_⟩
        · rw [mset_n (by decide), mset_s]; rfl
        · rw [mset_s]
        · rw [mset_n (by decide), mset_n (by decide)]; exact q3
        · rw [mset_n (by decide), mset_n (by decide)]; exact q4
        · rw [mset_n (by decide), mset_n (by decide)]; exact q5
        · rw [mset_n (by decide), mset_n (by decide)]; exact q6
    · rw [decide_eq_false c1, if_pos (show b2i false = 0 from rfl), if_neg (fun z => c1 z.1)]
      exact ⟨_, rfl, lossM_fr p mm, lossM_S Y⟩
  · rw [if_neg (fun z => e ((nI_eq (by omega) (by omega)).mp z))]
    cases hX : X.1 with
    | none =>
      rw [stepS_none e hX, if_pos (show en none = -1 from rfl)]
      exact ⟨mm, rfl, Fr.refl p mm, Y⟩
    | some k =>
      obtain ⟨k1, k2⟩ := O.1 k hX
      rw [stepS_some e hX, if_neg (show ¬ en (some k) = -1 from nI_ne1 (by omega)), show laS W.2.2 W.1 = laW W from rfl]
      cases hd : H.2.2 h with
      | false =>
        rw [if_pos (show b2i false = 0 from rfl), if_neg (by rintro ⟨z, -⟩; cases z)]
        exact f10_stay M G hp hh P Y O hX
      | true =>
        rw [if_neg (show ¬ b2i true = 0 by decide)]
        obtain ⟨j, hj⟩ := laS_some (ht := W.2.2) (n := W.1) (by omega)
        have hj : laW W = some j := hj
        have hjl := laW_lt hj
        rw [hj]
        by_cases c : k = j
        · subst c
          rw [if_pos rfl, if_neg (by rintro ⟨-, z⟩; exact z rfl)]
          exact f10_stay M G hp hh P Y O hX
        · rw [if_neg (show ¬ en (some k) = en (some j) from fun z => c ((nI_eq (by omega) (by omega)).mp z)), if_pos ⟨rfl, fun z => c (by cases z; rfl)⟩]
          obtain ⟨mm', r1, r2, r3⟩ := f10_dries M G hp hh P Y O k2 hjl
          refine ⟨mm', ?_, r2, r3⟩
          rw [show en (some j) = nI j from rfl, r1]
          exact bz_in (b2i_z _)
