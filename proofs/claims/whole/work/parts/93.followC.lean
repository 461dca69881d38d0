/-! the class: a path -/
theorem HR.pre {W : KW} {q h : Nat} {M M0 M' : Mem} {g : Nat → Bool} {Z : ST × Bool} (f : FrS q h M M0) (x : HR W q h M0 g Z M') : HR W q h M g Z M' := ⟨f.trans x.1, x.2⟩
theorem nxtS_lt {W : KW} {H : KH} {h k d i : Nat} (hk : k < W.1) (e : nxtS W H h k d = some i) : i < W.1 := by
  unfold nxtS at e
  split at e
  · cases hl : laW W with
    | none => rw [hl] at e; cases e
    | some j =>
      rw [hl] at e
      dsimp only at e
      split at e
      · cases e
      · cases e; exact laW_lt hl
  · split at e
    · cases hg : goW W (H.2.1 h k) k with
      | none => rw [hg] at e; cases e; exact hk
      | some j =>
        rw [hg] at e
        exact (skp_lt (goW_lt hg) e).1
    · cases e; exact hk
theorem bk_eq {b : Nat} (h : b < 2) : nI b = b2i (b == 1) := by
  rcases (show b = 0 ∨ b = 1 by omega) with rfl | rfl <;> rfl
theorem follow_A {W : KW} {H : KH} {S : KS} {q v u p h : Nat} {X : ST} {g : Nat → Bool} {M : Mem} {a2 : Int32} (v6 : Int32) (kh : Int32 → Mem → Option Mem) (C : CW M v W.1 W.2.1 W.2.2) (G : BT a2 (H.1 h)) (sv : v + 4 < q ∨ q + 4 < v) (l2 : S.2.1 < 8) (hh : h < 40) (Y : CX M q X) (e : S.1 = h) (hX : X.1 = none) (b : BT (M q 4) g) (h4 : M (q + 4) h = 0) : ∃ M', (F4_begin q v a2 (nI S.2.1) M).bind (fun q33 => ((F8_stay v (q33 q 5) q33).bind (fun q34 => ((F4_follow_b224 kh q v u 11 (nI p) (nI S.2.1) v6) (nI h) (mset q33 q 6 (nI h + q34)))))) = F4_follow_b224 kh q v u 11 (nI p) (nI S.2.1) v6 (nI h) M' ∧ HR W q h M g (stepS W H S h X) M' := by
  have h8 := C.1
  obtain ⟨y1, y2, y3, y4⟩ := Y
  rw [stepS_read e]
  by_cases c : S.2.1 < W.1 ∧ H.1 h S.2.1 = false
  · have hb : F4_begin q v a2 (nI S.2.1) M = some (mset M q 5 (nI S.2.1)) := by
      unfold F4_begin
      rw [if_neg (nI_pos (show S.2.1 < 2 ^ 31 by omega)), C.2.1, if_neg (nI_ge c.1 (by omega)), bt_test G l2, if_pos (show b2i (H.1 h S.2.1) = 0 by rw [c.2]; rfl)]
    have C2 : CW (mset M q 5 (nI S.2.1)) v W.1 W.2.1 W.2.2 := C.fi (FrS.int (h := h) M 5 _).fi (by omega)
    rw [hb, Option.bind_some, mset_s, f8_stay C2 c.1, Option.bind_some, nI_add, if_pos c]
    refine ⟨_, rfl, (FrS.int _ _ _).trans (FrS.int _ _ _), ⟨?_, ?_, ?_, ?_⟩, ?_, ?_, ?_⟩
    · rw [mset_o (by decide), mset_s]; rfl
    · rw [mset_o (by decide), mset_o (by decide)]; exact y2
    · rw [mset_o (by decide), mset_o (by decide)]; exact y3
    · rw [mset_o (by decide), mset_o (by decide)]; exact y4
    · intro k hk
      cases hk
      rw [mset_s]
    · rw [mset_o (by decide), mset_o (by decide)]; exact bt_cg b (fun j _ => by simp)
    · rw [mset_n (by omega), mset_n (by omega)]; exact h4
  · have hb : F4_begin q v a2 (nI S.2.1) M = some (mset M q 9 0) := by
      unfold F4_begin F4_begin_b28
      rw [if_neg (nI_pos (show S.2.1 < 2 ^ 31 by omega)), C.2.1, bt_test G l2]
      by_cases c1 : S.2.1 < W.1
      · rw [if_neg (nI_ge c1 (by omega)), if_neg (show ¬ b2i (H.1 h S.2.1) = 0 by rw [b2i_0]; exact fun z => c ⟨c1, z⟩)]
      · rw [if_pos (nI_le (by omega) (by omega))]
    have C2 : CW (mset M q 9 0) v W.1 W.2.1 W.2.2 := C.fi (FrS.int (h := h) M 9 _).fi (by omega)
    have e5 : (mset M q 9 0) q 5 = en none := by rw [mset_o (by decide), y1, hX]
    rw [hb, Option.bind_some, e5, f8_stayX C2 none (fun k hk => by cases hk), Option.bind_some, nI_add, if_neg c]
    refine ⟨_, rfl, (FrS.int _ _ _).trans (FrS.int _ _ _), ⟨?_, ?_, ?_, ?_⟩, ?_, ?_, ?_⟩
    · rw [mset_o (by decide)]; exact e5
    · rw [mset_o (by decide), mset_o (by decide)]; exact y2
    · rw [mset_o (by decide), mset_o (by decide)]; exact y3
    · rw [mset_o (by decide), mset_s]; rfl
    · intro k hk
      cases hk
    · rw [mset_o (by decide), mset_o (by decide)]; exact bt_cg b (fun j _ => by simp)
    · rw [mset_n (by omega), mset_n (by omega)]; exact h4
theorem follow_hour {W : KW} {H : KH} {S : KS} {q v u p h : Nat} {X : ST} {g : Nat → Bool} {M : Mem} (kh : Int32 → Mem → Option Mem) (C : CW M v W.1 W.2.1 W.2.2) (K : CK M v W.1 W.2.2 W.1) (G : CH M u H) (sv : v + 4 < q ∨ q + 4 < v) (su : u + 3 < q ∨ q + 4 < u) (s11 : 16 < q) (hp : p < 8) (hS : M 12 p = nI S.1) (l1 : S.1 < 40) (l2 : S.2.1 < 8) (l3 : S.2.2.1 < 2) (hh : h < 40) (Y : CX M q X) (D : DU M q W.2.1 X) (O : XO W.1 h X) (hr : S.1 = h → X.1 = none) (b : BT (M q 4) g) : ∃ M', F4_follow_p34 kh q v u 11 (nI p) (nI S.2.1) (nI S.2.2.1) (nI h) M = F4_follow_b224 kh q v u 11 (nI p) (nI S.2.1) (nI S.2.2.1) (nI h) M' ∧ HR W q h M g (stepS W H S h X) M' := by
  have h8 := C.1
  have f0 : FrS q h M (mset M (q + 4) h 0) := FrS.heard M 0
  have C0 : CW (mset M (q + 4) h 0) v W.1 W.2.1 W.2.2 := C.fi f0.fi (by omega)
  have K0 : CK (mset M (q + 4) h 0) v W.1 W.2.2 W.1 := K.fi f0.fi (by omega)
  have G0 : CH (mset M (q + 4) h 0) u H := G.fi f0.fi (by omega)
  have Y0 : CX (mset M (q + 4) h 0) q X := Y.heard
  have D0 : DU (mset M (q + 4) h 0) q W.2.1 X := fun k hk => by rw [mset_n (by omega)]; exact D k hk
  have b0 : BT ((mset M (q + 4) h 0) q 4) g := by rw [mset_n (by omega)]; exact b
  have e12 : (mset M (q + 4) h 0) (11 + 1) p = nI S.1 := by rw [mset_n (by omega)]; exact hS
  have z4 : (mset M (q + 4) h 0) (q + 4) h = 0 := mset_s _ _ _ _
  unfold F4_follow_p34
  rw [if_neg (show ¬ (40 : Int32) ≤ nI h from nI_ge (b := 40) hh (by decide)), ckI hh (by decide), nI_clamp (show h < 2 ^ 31 by omega)]
  simp only [lt]
  rw [ckI hp (by decide), nI_clamp (show p < 2 ^ 31 by omega), e12]
  generalize hM0 : mset M (q + 4) h 0 = M0 at *
  obtain ⟨g1, g2, g3⟩ := G0 h hh
  by_cases e : S.1 = h
  · rw [if_pos (by rw [e]), ckI hh (by decide)]
    obtain ⟨M', r1, r2⟩ := follow_A (H := H) (u := u) (p := p) (nI S.2.2.1) kh C0 g2 sv l2 hh Y0 e (hr e) b0 z4
    exact ⟨M', r1, r2.pre f0⟩
  · rw [if_neg (fun z => e ((nI_eq (show h < 2 ^ 31 by omega) (show S.1 < 2 ^ 31 by omega)).mp z).symm)]
    cases hX : X.1 with
    | none =>
      rw [if_pos (show M0 q 5 = -1 by rw [Y0.1, hX]; rfl), stepS_none e hX]
      exact ⟨M0, rfl, f0, Y0, D0, bt_cg b0 (fun j _ => by simp), z4⟩
    | some k =>
      have hk := (O.1 k hX).1
      have e5 : M0 q 5 = nI k := by rw [Y0.1, hX]; rfl
      have e6 := D0 k hX
      have hst := stayS_le W.2.1 k
      have o2 := O.2.1
      rw [if_neg (show ¬ M0 q 5 = -1 by rw [e5]; exact nI_ne1 (by omega)), f4_next C0 K0 G0 hh hk (show X.2.1 + stayS W.2.1 k < 2 ^ 31 by omega) e5 e6, Option.bind_some, stepS_nxt e hX]
      have ho : ∀ i, nxtS W H h k (X.2.1 + stayS W.2.1 k) = some i → i < W.1 := fun i hi => nxtS_lt hk hi
      generalize nxtS W H h k (X.2.1 + stayS W.2.1 k) = o at ho ⊢
      by_cases c : o = some k
      · subst c
        rw [if_pos (show en (some k) = M0 q 5 from e5.symm), if_pos rfl, e6]
        by_cases d : h = X.2.1 + stayS W.2.1 k
        · rw [if_pos (by rw [← d]), if_pos d]
          unfold F4_follow_b129 F4_follow_b134 F4_follow_b204
          rw [if_pos (show en (some k) = M0 q 5 from e5.symm), if_neg (show ¬ (1 : Int32) = 0 by decide), e5, f8_stay C0 hk, Option.bind_some, nI_add]
          refine ⟨_, rfl, f0.trans (FrS.int _ _ _), ⟨?_, ?_, ?_, ?_⟩, ?_, ?_, ?_⟩
          · rw [mset_o (by decide)]; exact e5
          · rw [mset_o (by decide)]; exact Y0.2.1
          · rw [mset_o (by decide)]; exact Y0.2.2.1
          · rw [mset_o (by decide)]; exact Y0.2.2.2
          · intro j hj
            cases hj
            rw [mset_s]
          · rw [mset_o (by decide)]; exact bt_cg b0 (fun j _ => by simp)
          · rw [mset_n (by omega)]; exact z4
        · rw [if_neg (fun z => d ((nI_eq (by omega) (by omega)).mp z)), if_neg d]
          unfold F4_follow_b134 F4_follow_b204
          rw [if_pos (show en (some k) = M0 q 5 from e5.symm), if_pos rfl]
          exact ⟨M0, rfl, f0, Y0, D0, bt_cg b0 (fun j _ => by simp), z4⟩
      · have hoe : ¬ en o = M0 q 5 := by
          rw [e5]
          intro z
          refine c ((en_eq (a := o) (b := some k) (fun i hi => ?_) (fun i hi => ?_)).mp z)
          · have := ho i hi; omega
          · cases hi; omega
        rw [if_neg hoe, if_neg c, bk_eq l3]
        obtain ⟨M', r1, r2⟩ := follow_129 (u := u) (s := 11) (wood := S.2.2.1 == 1) kh (nI p) (nI S.2.1) C0 sv hh o ho Y0 O (O.1 k hX).2 b0 hX c
        refine ⟨M', r1, ?_⟩
        cases o with
        | none => exact r2.pre f0
        | some i => exact r2.pre f0
