/-- the class's hours, eight bits each -/
def CH (mc : Mem) (u : Nat) (H : KH) : Prop := ∀ h, h < 40 → BT (mc (u + 1) h) (H.2.1 h) ∧ BT (mc (u + 2) h) (H.1 h) ∧ mc (u + 3) h = b2i (H.2.2 h)
/-- where a saying in well k goes in hour h -/
def nxtS (W : KW) (H : KH) (h k d : Nat) : Option Nat :=
  if H.2.2 h = true ∧ laW W ≠ some k then (match laW W with | none => none | some j => if H.1 h j then none else some j)
  else if h = d then (match goW W (H.2.1 h k) k with | none => some k | some j => skW W (H.2.1 h k) (H.1 h) (some j))
  else some k
theorem next_loop {mc : Mem} {W : KW} {q v u s0 : Nat} {a4 : Int32} {cv : Nat → Bool} (h8 : W.1 ≤ 8) (up : Bool) (b : BT a4 cv) (hs : ∀ k, k < W.1 → mc s0 k = en (goW W up k)) (h3 : Int32) : ∀ (m n i : Nat) (x : Option Nat), i + m = 8 → m < n → (∀ k, x = some k → k < W.1) → F4_next_h116 q v u h3 mc n a4 s0 (en x) (nI i) = some (en (skp (goW W up) cv m x)) := by
  intro m
  induction m with
  | zero =>
    intro n i x hm hn hx
    obtain ⟨n', rfl⟩ : ∃ n', n = n' + 1 := ⟨n - 1, by omega⟩
    have : i = 8 := by omega
    subst this
    rfl
  | succ m ih =>
    intro n i x hm hn hx
    obtain ⟨n', rfl⟩ : ∃ n', n = n' + 1 := ⟨n - 1, by omega⟩
    show F4_next_p116 _ _ _ _ _ _ _ _ _ _ = _
    unfold F4_next_p116
    rw [if_neg (show ¬ (8 : Int32) ≤ nI i from nI_ge (b := 8) (by omega) (by decide))]
    cases x with
    | none => rw [if_pos (show en none = -1 from rfl), skp_none]
    | some k =>
      have k1 := hx k rfl
      rw [if_neg (show ¬ en (some k) = -1 from nI_ne1 (by omega))]
      rw [show en (some k) = nI k from rfl, bt_test b (show k < 8 by omega), ckI (show k < 8 by omega) (by decide), nI_clamp (show k < 2 ^ 31 by omega), hs k k1, nI_1]
      unfold skp
      cases hc : cv k with
      | false => rw [if_neg (by decide)]; rfl
      | true =>
        rw [if_pos (show b2i true = 1 from rfl), if_pos rfl]
        exact ih n' (i + 1) _ (by omega) (by omega) (fun j hj => goW_lt hj)
theorem f4_next {mc : Mem} {W : KW} {H : KH} {q v u h k d : Nat} (C : CW mc v W.1 W.2.1 W.2.2) (K : CK mc v W.1 W.2.2 W.1) (G : CH mc u H) (hh : h < 40) (hk : k < W.1) (hd : d < 2 ^ 31) (h5 : mc q 5 = nI k) (h6 : mc q 6 = nI d) : F4_next q v u (nI h) mc = some (en (nxtS W H h k d)) := by
  have h8 := C.1
  obtain ⟨g1, g2, g3⟩ := G h hh
  obtain ⟨l, hl⟩ := laS_some (ht := W.2.2) (n := W.1) (by omega)
  have hl : laW W = some l := hl
  have hll := laW_lt hl
  have k5 : mc v 5 = nI l := by rw [K.1, show laS W.2.2 W.1 = some l from hl]; rfl
  have hb : ∀ a4, BT a4 (H.1 h) → F4_next_b50 q v u (nI h) mc a4 = some (en (if h = d then (match goW W (H.2.1 h k) k with | none => some k | some j => skW W (H.2.1 h k) (H.1 h) (some j)) else some k)) := by
    intro a4 b
    have hs : ∀ (up : Bool) (s0 : Nat), (∀ i, i < W.1 → mc s0 i = en (goW W up i)) → F4_next_b91 q v u (nI h) mc a4 s0 = some (en (match goW W up k with | none => some k | some j => skW W up (H.1 h) (some j))) := by
      intro up s0 hs0
      unfold F4_next_b91
      rw [h5, ckI (show k < 8 by omega) (by decide), nI_clamp (show k < 2 ^ 31 by omega), hs0 k hk]
      cases hg : goW W up k with
      | none => rw [if_pos (show en none = -1 from rfl)]; rfl
      | some j =>
        have hj := goW_lt hg
        rw [if_neg (show ¬ en (some j) = -1 from nI_ne1 (by omega))]
        exact next_loop h8 up b hs0 (nI h) 8 FU 0 (some j) (by decide) (FU_lt (by decide)) (fun i hi => by cases hi; exact hj)
    unfold F4_next_b50
    rw [h6, h5]
    by_cases c : h = d
    · rw [if_pos (by rw [c]), if_pos c, ckI (show h < 40 by omega) (by decide), nI_clamp (show h < 2 ^ 31 by omega), bt_test g1 (show k < 8 by omega)]
      cases hu : H.2.1 h k with
      | false => rw [if_neg (show ¬ b2i false = 1 by decide)]; exact hs false (v + 3) (fun i hi => (K.2 i hi).1)
      | true => rw [if_pos (show b2i true = 1 from rfl)]; exact hs true (v + 4) (fun i hi => (K.2 i hi).2)
    · rw [if_neg (fun z => c ((nI_eq (by omega) hd).mp z)), if_neg c]; rfl
  unfold F4_next nxtS
  simp only [ckI (show h < 40 by omega) (by decide), nI_clamp (show h < 2 ^ 31 by omega), g3, h5, k5]
  rw [hl]
  cases hd2 : H.2.2 h with
  | false =>
    rw [if_pos (show b2i false = 0 from rfl), if_neg (by rintro ⟨z, -⟩; cases z)]
    exact hb _ g2
  | true =>
    rw [if_neg (show ¬ b2i true = 0 by decide)]
    by_cases c : k = l
    · subst c
      rw [if_pos rfl, if_neg (by rintro ⟨-, z⟩; exact z rfl)]
      exact hb _ g2
    · have ca : true = true ∧ some l ≠ some k := ⟨rfl, fun z => c (by cases z; rfl)⟩
      simp only [if_pos ca]
      rw [if_neg (fun z => c ((nI_eq (by omega) (by omega)).mp z)), bt_test g2 (show l < 8 by omega)]
      cases hc : H.1 h l with
      | false => rw [if_neg (show ¬ b2i false = 1 by decide)]; simp [show ¬ l = k from fun z => c z.symm, en]
      | true => rw [if_pos (show b2i true = 1 from rfl)]; simp [show ¬ l = k from fun z => c z.symm, en]
/-- what an hour makes of a saying in well k, by where it goes -/
theorem stepS_nxt {W : KW} {H : KH} {S : KS} {h k : Nat} {X : ST} (e : ¬ S.1 = h) (hX : X.1 = some k) : stepS W H S h X = if nxtS W H h k (X.2.1 + stayS W.2.1 k) = some k then (if h = X.2.1 + stayS W.2.1 k then ((some k, h, X.2.2), false) else (X, false)) else (match nxtS W H h k (X.2.1 + stayS W.2.1 k) with | none => (lossS X, false) | some i => comeS W (S.2.2.1 == 1) h i X) := by
  rw [stepS_some e hX]
  unfold nxtS goesS
  have opt : ∀ o : Option Nat, o = none ∨ ∃ i, o = some i := fun o => by cases o with
    | none => exact Or.inl rfl
    | some i => exact Or.inr ⟨i, rfl⟩
  by_cases c : H.2.2 h = true ∧ laW W ≠ some k
  · simp only [if_pos c]
    rcases opt (laW W) with hl | ⟨j, hl⟩
    · simp only [hl]; rfl
    · have : ¬ j = k := fun z => c.2 (by rw [hl, z])
      simp only [hl]
      cases hc : H.1 h j with
      | true => simp [hc]
      | false => simp [hc, this]
  · simp only [if_neg c]
    by_cases d : h = X.2.1 + stayS W.2.1 k
    · simp only [if_pos d]
      rcases opt (goW W (H.2.1 h k) k) with hg | ⟨j, hg⟩
      · simp [hg]
      · simp only [hg]
        rcases opt (skW W (H.2.1 h k) (H.1 h) (some j)) with hs | ⟨i, hs⟩
        · simp [hs]
        · have h1 := skp_lt (goW_lt hg) hs
          have h2 := goW_rk hg
          have : ¬ i = k := by rintro rfl; omega
          simp [hs, this]
    · simp only [if_neg d, if_true]
