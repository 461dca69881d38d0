/-! the reference: what was drawn; never, stone, stood, bucket -/
theorem f10_isSayN {mm : Mem} {ns : Nat} (hn : mm 0 9 = nI ns) (n8 : ns ≤ 8) {k : Nat} (hk : k < 2 ^ 31) : F10_isSaying (nI k) mm = some (b2i (decide (k < ns))) := by
  unfold F10_isSaying
  rw [f10_in, hn]
  have e : ((0 : Int64) ≤ (nI k).toInt64 ∧ (nI k).toInt64 ≤ (nI ns - 1).toInt64) ↔ k < ns := by
    rw [Int64.le_iff_toInt_le, Int64.le_iff_toInt_le, Int32.toInt_toInt64, Int32.toInt_toInt64, nI_toInt hk, show (nI ns - 1).toInt = (ns : Int) - 1 from pk_sub_toInt (b := 1) (by omega) (by decide)]
    have : (0 : Int64).toInt = 0 := by decide
    omega
  simp only [e]
  rw [b2i_d]
  exact bz_in (b2i_z _)
theorem MD.fr {mm mm' : Mem} {nd : Nat} {DR : EV} (D : MD mm nd DR) (h0 : mm' 0 26 = mm 0 26) (h : mm' 20 = mm 20) : MD mm' nd DR := by
  unfold MD at *
  rw [h0, h]
  exact D
theorem comesB_s (W : KW) (H : KH) (ns : Nat) (SS : Nat → KS) (n : Nat) (DR : EV) : comesB W H ns SS (n + 1) DR = (comesB W H ns SS n DR && (decide (DR.2.1 n < ns) && ((lifS W H (SS (DR.2.1 n)) (DR.1 n + 1)).2.2.2.2 == DR.2.2 n))) := rfl
theorem r_isDrawn {mm : Mem} {W : KW} {H : KH} {ns : Nat} {SS : Nat → KS} {nd : Nat} {DR : EV} (V : RV mm W H ns SS) (D : MD mm nd DR) : ∃ mm', F10_isDrawn mm = some (b2i (comesB W H ns SS nd DR), mm') ∧ FrA mm mm' ∧ RLv mm' W H ns SS := by
  obtain ⟨M, q1, q2, q3, q4⟩ := V.lives
  refine ⟨M, ?_, q2, q4⟩
  have D1 : MD M nd DR := D.fr (by rw [q2 0 (by omega)]) (q2 20 (by omega))
  obtain ⟨h8, n8, hn, l, L⟩ := q4
  obtain ⟨d8, hd, dd⟩ := D1
  unfold F10_isDrawn
  rw [q1, Option.bind_some]
  refine up_all (fun n a i => F10_isDrawn_h8 n a i M) (fun i => b2i (comesB W H ns SS i DR)) nd _ (by omega) ?_ ?_
  · intro n
    show F10_isDrawn_p8 _ _ _ _ = _
    unfold F10_isDrawn_p8
    rw [hd, if_pos (nI_le (Nat.le_refl _) (by omega)), bz_in (b2i_z _)]
  · intro n d hdd
    obtain ⟨⟨b1, b2, b3⟩, l1, l2, l3⟩ := dd d hdd
    show F10_isDrawn_p8 _ _ _ _ = _
    unfold F10_isDrawn_p8 F10_isDrawn_b74 F10_isDrawn_b75
    obtain ⟨x1, x2, x3, x4, x5, x6⟩ := ix3 (show d < 8 by omega)
    rw [hd, if_neg (nI_ge hdd (by omega)), x1, x2, x3, x4, x5, x6, ckI (show 3 * d < 24 by omega) (by decide), ckI (show 3 * d + 1 < 24 by omega) (by decide), ckI (show 3 * d + 2 < 24 by omega) (by decide), b1, b2, b3, nI_1 d, comesB_s]
    cases ca : comesB W H ns SS d DR with
    | false => rw [if_pos (show b2i false = 0 from rfl), Bool.false_and]; rfl
    | true =>
      rw [if_neg (show ¬ b2i true = 0 by decide), f10_isSayN hn n8 (by omega), Option.bind_some, Bool.true_and]
      by_cases c : DR.2.1 d < ns
      · rw [decide_eq_true c, if_neg (show ¬ b2i true = 0 by decide)]
        obtain ⟨y1, y2, y3⟩ := ix8 l1 l2
        have F := ((L _ c).2 (DR.1 d) l1).2.2.1
        have O := (lifS_O (W := W) (H := H) (l _ c).l64 (DR.1 d + 1)).2.2.2.2
        rw [y1, ckI y3 (by decide), y2, F]
        simp only [eqI (show (lifS W H (SS (DR.2.1 d)) (DR.1 d + 1)).2.2.2.2 < 2 ^ 31 by omega) (show DR.2.2 d < 2 ^ 31 by omega)]
        by_cases z : (lifS W H (SS (DR.2.1 d)) (DR.1 d + 1)).2.2.2.2 = DR.2.2 d
        · rw [if_pos z, z]; simp; rfl
        · rw [if_neg z, beqf z]; rfl
      · rw [decide_eq_false c, if_pos (show b2i false = 0 from rfl)]; rfl
theorem r_neverNow {mm : Mem} {K : KX} (R : RB mm K) : ∃ mm', F10_neverNow mm = some (aNever K, mm') ∧ FrB mm mm' := by
  have e8 := R.e8
  have n8 := R.n8
  unfold F10_neverNow
  refine lpF (fun n (s : Int32 × Int32 × Mem) => F10_neverNow_h4 F10_neverNow_b42 n s.1 s.2.1 s.2.2) (fun e s => s.1 = nI (bitsN (neverB K) e) ∧ s.2.1 = nI e ∧ FrZ 13 mm s.2.2) (fun r => ∃ mm', r = some (aNever K, mm') ∧ FrB mm mm') K.2.1.2 (by omega) ?_ ?_ (0, 0, mm) ⟨rfl, rfl, FrZ.refl _ _⟩
  · rintro n e ⟨x, y, M⟩ he ⟨e1, e2, f⟩
    dsimp only at e1 e2 f
    subst e1 e2
    left
    have f0 : FrZ 13 mm (mset M 0 13 (nI (2 ^ e))) := f.set _
    have M0 : ME M K.2.1.1 K.2.1.2 (fun _ => true) ∨ True := Or.inr trivial
    have hpw : 2 ^ e < 2 ^ 31 := Nat.pow_lt_pow_right (by decide) (by omega)
    have V : RV (mset M 0 13 (nI (2 ^ e))) K.1 (HK K.2.1.1 K.2.1.2 (fun i => !(i == e))) K.2.2.1.1 K.2.2.1.2.1 := by
      refine ⟨R.1.congr (f0.2 7 (by decide) (by decide) (by decide)) (f0.1 7 (by omega)), mh_of ?_ ((f0.2 14 (by decide) (by decide) (by decide)).trans R.2.2.1.2), ⟨n8, (f0.2 9 (by decide) (by decide) (by decide)).trans R.2.2.2.1.1.2.1, fun p hp => (R.2.2.2.1.1.2.2 p hp).congr (f0.1 8 (by omega))⟩, R.2.2.2.1.2.1⟩
      obtain ⟨a, b, -, d⟩ := R.2.1
      refine ⟨a, (f0.2 11 (by decide) (by decide) (by decide)).trans b, ⟨2 ^ e, hpw, mset_s _ _ _ _, on_1⟩, ?_⟩
      rw [f0.1 9 (by omega)]; exact d
    have D : MD (mset M 0 13 (nI (2 ^ e))) K.2.2.2.1 K.2.2.2.2 := R.2.2.2.2.fr (f0.2 26 (by decide) (by decide) (by decide)) (f0.1 20 (by omega))
    obtain ⟨M2, q1, q2, -⟩ := r_isDrawn V D
    refine ⟨(nI (bitsN (neverB K) (e + 1)), nI (e + 1), M2), ?_, rfl, rfl, f0.frA q2⟩
    show F10_neverNow_p4 _ _ (nI (bitsN (neverB K) e)) (nI e) M = _
    unfold F10_neverNow_p4 F10_neverNow_b34
    simp only [lt]
    rw [show M 0 11 = nI K.2.1.2 from (f.2 11 (by decide) (by decide) (by decide)).trans R.2.1.2.1, if_neg (nI_ge he (by omega)), shl_n (show e ≤ 8 by omega), q1, Option.bind_some, nI_1 e]
    show (if b2i (neverB K e) = 0 then _ else _) = _
    cases c : neverB K e with
    | false => rw [if_pos (show b2i false = 0 from rfl), bits_or0 (neverB K) c]
    | true => rw [if_neg (show ¬ b2i true = 0 by decide), ← shl_n (show e ≤ 8 by omega), bits_step (neverB K) (by omega) c]
  · rintro n ⟨x, y, M⟩ ⟨e1, e2, f⟩
    dsimp only at e1 e2 f
    subst e1 e2
    refine ⟨mset M 0 13 0, ?_, f.back R.2.2.1.1⟩
    show F10_neverNow_p4 _ _ (nI (bitsN (neverB K) K.2.1.2)) (nI K.2.1.2) M = _
    unfold F10_neverNow_p4 F10_neverNow_b42
    rw [show M 0 11 = nI K.2.1.2 from (f.2 11 (by decide) (by decide) (by decide)).trans R.2.1.2.1, if_pos (nI_le (Nat.le_refl _) (by omega))]
    rfl
/-- the wells but for one stone, one height, at x -/
theorem mw_stone {mm M : Mem} {K : KX} (R : RB mm K) {k x : Nat} (hk : k < K.1.1) (hx : x < 3) (f : FrE 7 (2 * k) mm M) : MW (mset M 7 (2 * k) (nI x)) K.1.1 (setF K.1.2.1 k x) K.1.2.2 := by
  obtain ⟨h8, hn, hw⟩ := R.1
  refine ⟨h8, by rw [mset_n (by decide)]; exact (f.2.2 7 (by decide) (by decide)).trans hn, fun j hj => ?_⟩
  obtain ⟨w1, w2, w3, w4⟩ := hw j hj
  by_cases e : j = k
  · subst e
    exact ⟨by rw [mset_s, setF_s], by rw [mset_o (by omega), f.2.1 _ (by omega)]; exact w2, by rw [setF_s]; exact hx, w4⟩
  · exact ⟨by rw [mset_o (by omega), f.2.1 _ (by omega), setF_n e]; exact w1, by rw [mset_o (by omega), f.2.1 _ (by omega)]; exact w2, by rw [setF_n e]; exact w3, w4⟩
theorem mw_stood {mm M : Mem} {K : KX} (R : RB mm K) {k x : Nat} (hk : k < K.1.1) (hx : x < 10) (f : FrE 7 (2 * k + 1) mm M) : MW (mset M 7 (2 * k + 1) (nI x)) K.1.1 K.1.2.1 (setF K.1.2.2 k x) := by
  obtain ⟨h8, hn, hw⟩ := R.1
  refine ⟨h8, by rw [mset_n (by decide)]; exact (f.2.2 7 (by decide) (by decide)).trans hn, fun j hj => ?_⟩
  obtain ⟨w1, w2, w3, w4⟩ := hw j hj
  by_cases e : j = k
  · subst e
    exact ⟨by rw [mset_o (by omega), f.2.1 _ (by omega)]; exact w1, by rw [mset_s, setF_s], w3, by rw [setF_s]; exact hx⟩
  · exact ⟨by rw [mset_o (by omega), f.2.1 _ (by omega)]; exact w1, by rw [mset_o (by omega), f.2.1 _ (by omega), setF_n e]; exact w2, w3, by rw [setF_n e]; exact w4⟩
theorem rv_well {mm M : Mem} {K : KX} {i : Nat} {W : KW} (R : RB mm K) (f : FrE 7 i mm M) (w : MW M W.1 W.2.1 W.2.2) : RV M W (H0 K) K.2.2.1.1 K.2.2.1.2.1 ∧ MD M K.2.2.2.1 K.2.2.2.2 :=
  ⟨⟨w, mh_of (R.2.1.congr (f.2.2 11 (by decide) (by decide)) (f.2.2 13 (by decide) (by decide)) (f.1 9 (by omega) (by decide))) ((f.2.2 14 (by decide) (by decide)).trans R.2.2.1.2), ⟨R.n8, (f.2.2 9 (by decide) (by decide)).trans R.2.2.2.1.1.2.1, fun p hp => (R.2.2.2.1.1.2.2 p hp).congr (f.1 8 (by omega) (by decide))⟩, R.2.2.2.1.2.1⟩, R.2.2.2.2.fr (f.2.2 26 (by decide) (by decide)) (f.1 20 (by omega) (by decide))⟩
theorem FrE.fi21 {c i : Nat} {mm M M' : Mem} (f : FrE c i mm M) (hc : c < 10) (g : FI 21 22 M M') : FrE c i mm M' := ⟨fun k h1 h2 => (g k (by omega)).trans (f.1 k h1 h2), fun j hj => by rw [g c (by omega)]; exact f.2.1 j hj, fun j h1 h2 => by rw [g 0 (by omega)]; exact f.2.2 j h1 h2⟩
theorem r_stones {mm : Mem} {K : KX} (R : RB mm K) {k : Nat} (hk : k < K.1.1) : ∃ mm', F10_stonesOf (nI k) mm = some (nI (bitsN (stoneB K k) 3), mm') ∧ FrB mm mm' := by
  have h8 := R.w8
  unfold F10_stonesOf
  rw [zm2, ckI (show 2 * k < 16 by omega) (by decide), nI_clamp (show 2 * k < 2 ^ 31 by omega)]
  refine lpF (fun n (s : Int32 × Int32 × Mem) => F10_stonesOf_h14 (F10_stonesOf_b54 (nI k)) (nI k) n (mm 7 (2 * k)) s.1 s.2.1 s.2.2) (fun b s => s.1 = nI (bitsN (stoneB K k) b) ∧ s.2.1 = nI b ∧ FrE 7 (2 * k) mm s.2.2) (fun r => ∃ mm', r = some (nI (bitsN (stoneB K k) 3), mm') ∧ FrB mm mm') 3 (by decide) ?_ ?_ (0, 0, mm) ⟨rfl, rfl, FrE.refl _ _ _⟩
  · rintro n b ⟨x, y, M⟩ hb ⟨e1, e2, f⟩
    dsimp only at e1 e2 f
    subst e1 e2
    left
    have f9 := f.set (by decide) (nI b)
    obtain ⟨V, D⟩ := rv_well (W := (K.1.1, setF K.1.2.1 k b, K.1.2.2)) R f9 (mw_stone R hk hb f)
    obtain ⟨M2, q1, q2, -⟩ := r_isDrawn V D
    refine ⟨(nI (bitsN (stoneB K k) (b + 1)), nI (b + 1), M2), ?_, rfl, rfl, f9.frA (by decide) q2⟩
    show F10_stonesOf_p14 _ _ (nI k) (mm 7 (2 * k)) (nI (bitsN (stoneB K k) b)) (nI b) M = _
    unfold F10_stonesOf_p14 F10_stonesOf_b46
    simp only [lt]
    rw [if_neg (show ¬ (3 : Int32) ≤ nI b from nI_ge (b := 3) hb (by decide)), zm2, ckI (show 2 * k < 16 by omega) (by decide), nI_clamp (show 2 * k < 2 ^ 31 by omega), q1, Option.bind_some, nI_1 b]
    show (if b2i (stoneB K k b) = 0 then _ else _) = _
    cases c : stoneB K k b with
    | false => rw [if_pos (show b2i false = 0 from rfl), bits_or0 (stoneB K k) c]
    | true => rw [if_neg (show ¬ b2i true = 0 by decide), bits_step (stoneB K k) (by omega) c]
  · rintro n ⟨x, y, M⟩ ⟨e1, e2, f⟩
    dsimp only at e1 e2 f
    refine ⟨mset M 7 (2 * k) (mm 7 (2 * k)), ?_, f.back (by decide)⟩
    show F10_stonesOf_p14 _ _ (nI k) (mm 7 (2 * k)) x y M = _
    unfold F10_stonesOf_p14 F10_stonesOf_b54
    rw [e1, e2, if_pos (show (3 : Int32) ≤ nI 3 by decide), zm2, ckI (show 2 * k < 16 by omega) (by decide), nI_clamp (show 2 * k < 2 ^ 31 by omega)]
theorem r_inIt {M0 : Mem} {K : KX} {k x : Nat} (kx : Int32 → Int32 → Int32 → Mem → Option (Int32 × Mem)) (a2 a3 : Int32) (hx : x < 10) (hk : k < K.1.1) (L : RLv M0 (stoodW K.1 k x) (H0 K) K.2.2.1.1 K.2.2.1.2.1) : ∃ M', F10_stoodOf_h56 kx (nI k) FU a2 a3 (nI x) 0 M0 = kx a2 a3 (nI x) M' ∧ FI 21 22 M0 M' ∧ (∀ i, (i < 40 * x ∨ 40 * x + 40 ≤ i) → M' 21 i = M0 21 i) ∧ ∀ h, h < 40 → M' 21 (40 * x + h) = nI (inN K k x h) := by
  have h8 : K.1.1 ≤ 8 := L.1
  have n8 := L.2.1
  have inn : ∀ (kx111 : Int32 → Int32 → Int32 → Int32 → Int32 → Mem → Option (Int32 × Mem)) (M : Mem) (h : Nat), h < 40 → FI 21 22 M0 M → F10_stoodOf_h69 kx111 (nI k) FU a2 a3 (nI x) (nI h) 0 0 M = kx111 a2 a3 (nI x) (nI h) (nI (inN K k x h)) M := by
    intro kx111 M h hh f
    refine up_all (fun n a i => F10_stoodOf_h69 kx111 (nI k) n a2 a3 (nI x) (nI h) a i M) (fun i => nI (cntN (inB K k x h) i)) K.2.2.1.1 _ (by omega) ?_ ?_
    · intro n
      show F10_stoodOf_p69 _ _ _ _ _ _ _ _ _ _ = _
      unfold F10_stoodOf_p69
      rw [show M 0 9 = nI K.2.2.1.1 from by rw [f 0 (by omega)]; exact L.2.2.1, if_pos (nI_le (Nat.le_refl _) (by omega))]
      rfl
    · intro n p hp
      obtain ⟨x1, x2, x3⟩ := ix8 hh (show p < 8 by omega)
      have f1 := ((L.2.2.2.2 p hp).2 h hh).1
      show F10_stoodOf_p69 _ _ _ _ _ _ _ _ _ _ = _
      unfold F10_stoodOf_p69 F10_stoodOf_b102
      rw [show M 0 9 = nI K.2.2.1.1 from by rw [f 0 (by omega)]; exact L.2.2.1, if_neg (nI_ge hp (by omega)), x1, ckI x3 (by decide), x2, f 16 (by omega), f1, nI_1 p, cnt_s]
      have := en_eqs (fun j hj => lif_lt (W := stoodW K.1 k x) (L.2.2.2.1 p hp) hj) h8 (show k < 8 by omega) (o := (lifS (stoodW K.1 k x) (H0 K) (K.2.2.1.2.1 p) (h + 1)).1)
      simp only [this]
      by_cases z : (lifS (stoodW K.1 k x) (H0 K) (K.2.2.1.2.1 p) (h + 1)).1 = some k
      · rw [if_pos z, show inB K k x h p = true from by unfold inB; rw [z]; simp, show (1 : Int32) = nI 1 from rfl, nI_add]; rfl
      · rw [if_neg z, show inB K k x h p = false from by unfold inB; simpa using z, show (0 : Int32) = nI 0 from rfl, nI_add]; rfl
  refine lpF (fun n (s : Int32 × Mem) => F10_stoodOf_h56 kx (nI k) n a2 a3 (nI x) s.1 s.2) (fun h s => s.1 = nI h ∧ FI 21 22 M0 s.2 ∧ (∀ i, (i < 40 * x ∨ 40 * x + 40 ≤ i) → s.2 21 i = M0 21 i) ∧ ∀ j, j < h → s.2 21 (40 * x + j) = nI (inN K k x j)) (fun r => ∃ M', r = kx a2 a3 (nI x) M' ∧ FI 21 22 M0 M' ∧ (∀ i, (i < 40 * x ∨ 40 * x + 40 ≤ i) → M' 21 i = M0 21 i) ∧ ∀ h, h < 40 → M' 21 (40 * x + h) = nI (inN K k x h)) 40 (by decide) ?_ ?_ (0, M0) ⟨rfl, FI.refl _ _ _, fun _ _ => rfl, fun j hj => by omega⟩
  · rintro n h ⟨y, M⟩ hh ⟨e1, f, g, c⟩
    dsimp only at e1 f g c
    subst e1
    left
    refine ⟨(nI (h + 1), mset M 21 (40 * x + h) (nI (inN K k x h))), ?_, rfl, f.set _ _ _ (by omega), fun i hi => by dsimp only; rw [mset_o (by omega)]; exact g i hi, fun j hj => ?_⟩
    · show F10_stoodOf_p56 _ _ (nI k) a2 a3 (nI x) (nI h) M = _
      unfold F10_stoodOf_p56
      rw [if_neg (show ¬ (40 : Int32) ≤ nI h from nI_ge (b := 40) hh (by decide)), inn _ M h hh f]
      unfold F10_stoodOf_b111
      rw [zm40, nI_add, ckI (show 40 * x + h < 400 by omega) (by decide), nI_clamp (show 40 * x + h < 2 ^ 31 by omega), nI_1]
    · dsimp only
      by_cases e : j = h
      · subst e; rw [mset_s]
      · rw [mset_o (by omega)]; exact c j (by omega)
  · rintro n ⟨y, M⟩ ⟨e1, f, g, c⟩
    dsimp only at e1 f g c
    subst e1
    exact ⟨M, rfl, f, g, c⟩
theorem r_stood {mm : Mem} {K : KX} (R : RB mm K) {k : Nat} (hk : k < K.1.1) : ∃ mm', F10_stoodOf (nI k) mm = some (nI (bitsN (stoodB K k) 10), mm') ∧ FrB mm mm' ∧ ∀ x h, x < 10 → h < 40 → mm' 21 (40 * x + h) = nI (inN K k x h) := by
  have h8 := R.w8
  unfold F10_stoodOf
  rw [zm2, nI_1, ckI (show 2 * k + 1 < 16 by omega) (by decide), nI_clamp (show 2 * k + 1 < 2 ^ 31 by omega)]
  refine lpF (fun n (s : Int32 × Int32 × Mem) => F10_stoodOf_h16 (F10_stoodOf_b138 (nI k)) (nI k) n (mm 7 (2 * k + 1)) s.1 s.2.1 s.2.2) (fun b s => s.1 = nI (bitsN (stoodB K k) b) ∧ s.2.1 = nI b ∧ FrE 7 (2 * k + 1) mm s.2.2 ∧ ∀ x h, x < b → h < 40 → s.2.2 21 (40 * x + h) = nI (inN K k x h)) (fun r => ∃ mm', r = some (nI (bitsN (stoodB K k) 10), mm') ∧ FrB mm mm' ∧ ∀ x h, x < 10 → h < 40 → mm' 21 (40 * x + h) = nI (inN K k x h)) 10 (by decide) ?_ ?_ (0, 0, mm) ⟨rfl, rfl, FrE.refl _ _ _, fun x h hx => by omega⟩
  · rintro n b ⟨x, y, M⟩ hb ⟨e1, e2, f, c⟩
    dsimp only at e1 e2 f c
    subst e1 e2
    left
    have f9 := f.set (by decide) (nI b)
    obtain ⟨V, D⟩ := rv_well (W := stoodW K.1 k b) R f9 (mw_stood R hk hb f)
    obtain ⟨M2, q1, q2, q3⟩ := r_isDrawn V D
    obtain ⟨M3, p1, p2, p3, p4⟩ := r_inIt (F10_stoodOf_b132 (F10_stoodOf_h16 (F10_stoodOf_b138 (nI k)) (nI k) n) (F10_stoodOf_b138 (nI k)) (nI k)) (mm 7 (2 * k + 1)) (nI (bitsN (stoodB K k) (b + 1))) hb hk q3
    refine ⟨(nI (bitsN (stoodB K k) (b + 1)), nI (b + 1), M3), ?_, rfl, rfl, (f9.frA (by decide) q2).fi21 (by decide) p2, fun x h hx hh => ?_⟩
    · show F10_stoodOf_p16 _ _ (nI k) (mm 7 (2 * k + 1)) (nI (bitsN (stoodB K k) b)) (nI b) M = _
      unfold F10_stoodOf_p16 F10_stoodOf_b51
      simp only [lt]
      rw [if_neg (show ¬ (10 : Int32) ≤ nI b from nI_ge (b := 10) hb (by decide)), zm2, nI_1, ckI (show 2 * k + 1 < 16 by omega) (by decide), nI_clamp (show 2 * k + 1 < 2 ^ 31 by omega), q1, Option.bind_some]
      show (if b2i (stoodB K k b) = 0 then _ else _) = _
      have e : (if b2i (stoodB K k b) = 0 then F10_stoodOf_h56 (F10_stoodOf_b132 (F10_stoodOf_h16 (F10_stoodOf_b138 (nI k)) (nI k) n) (F10_stoodOf_b138 (nI k)) (nI k)) (nI k) FU (mm 7 (2 * k + 1)) (nI (bitsN (stoodB K k) b) ||| 0) (nI b) 0 M2 else F10_stoodOf_h56 (F10_stoodOf_b132 (F10_stoodOf_h16 (F10_stoodOf_b138 (nI k)) (nI k) n) (F10_stoodOf_b138 (nI k)) (nI k)) (nI k) FU (mm 7 (2 * k + 1)) (nI (bitsN (stoodB K k) b) ||| ((1 : Int32) <<< (nI b &&& (31 : Int32)))) (nI b) 0 M2) = F10_stoodOf_h56 (F10_stoodOf_b132 (F10_stoodOf_h16 (F10_stoodOf_b138 (nI k)) (nI k) n) (F10_stoodOf_b138 (nI k)) (nI k)) (nI k) FU (mm 7 (2 * k + 1)) (nI (bitsN (stoodB K k) (b + 1))) (nI b) 0 M2 := by
        cases c : stoodB K k b with
        | false => rw [if_pos (show b2i false = 0 from rfl), bits_or0 (stoodB K k) c]
        | true => rw [if_neg (show ¬ b2i true = 0 by decide), bits_step (stoodB K k) (by omega) c]
      refine (e.trans p1).trans ?_
      unfold F10_stoodOf_b132
      rw [nI_1]
    · dsimp only
      by_cases e : x = b
      · subst e; exact p4 h hh
      · rw [p3 _ (by omega), q2 21 (by omega), mset_n (by decide)]; exact c x h (by omega) hh
  · rintro n ⟨x, y, M⟩ ⟨e1, e2, f, c⟩
    dsimp only at e1 e2 f c
    refine ⟨mset M 7 (2 * k + 1) (mm 7 (2 * k + 1)), ?_, f.back (by decide), fun x h hx hh => by rw [mset_n (by decide)]; exact c x h hx hh⟩
    show F10_stoodOf_p16 _ _ (nI k) (mm 7 (2 * k + 1)) x y M = _
    unfold F10_stoodOf_p16 F10_stoodOf_b138
    rw [e1, e2, if_pos (show (10 : Int32) ≤ nI 10 by decide), zm2, nI_1, ckI (show 2 * k + 1 < 16 by omega) (by decide), nI_clamp (show 2 * k + 1 < 2 ^ 31 by omega)]
theorem r_bucketOf {mm : Mem} {K : KX} (R : RB mm K) {p : Nat} (hp : p < K.2.2.1.1) : ∃ mm', F10_bucketOf (nI p) mm = some (aBucketOf K p, mm') ∧ FrB mm mm' := by
  have n8 := R.n8
  unfold F10_bucketOf
  rw [zm8, za2, ckI (show 8 * p + 2 < 64 by omega) (by decide), nI_clamp (show 8 * p + 2 < 2 ^ 31 by omega)]
  refine lpF (fun n (s : Int32 × Int32 × Mem) => F10_bucketOf_h17 (F10_bucketOf_b60 (nI p)) (nI p) n (mm 8 (8 * p + 2)) s.1 s.2.1 s.2.2) (fun b s => s.1 = nI (bitsN (bckB K p) b) ∧ s.2.1 = nI b ∧ FrE 8 (8 * p + 2) mm s.2.2) (fun r => ∃ mm', r = some (aBucketOf K p, mm') ∧ FrB mm mm') 2 (by decide) ?_ ?_ (0, 0, mm) ⟨rfl, rfl, FrE.refl _ _ _⟩
  · rintro n b ⟨x, y, M⟩ hb ⟨e1, e2, f⟩
    dsimp only at e1 e2 f
    subst e1 e2
    left
    have fE := f.set (by decide) (nI b)
    have V : RV (mset M 8 (8 * p + 2) (nI b)) K.1 (H0 K) K.2.2.1.1 (bckS K.2.2.1.2.1 p b) := by
      refine ⟨R.1.congr (fE.2.2 7 (by decide) (by decide)) (fE.1 7 (by omega) (by decide)), mh_of (R.2.1.congr (fE.2.2 11 (by decide) (by decide)) (fE.2.2 13 (by decide) (by decide)) (fE.1 9 (by omega) (by decide))) ((fE.2.2 14 (by decide) (by decide)).trans R.2.2.1.2), ⟨n8, (fE.2.2 9 (by decide) (by decide)).trans R.2.2.2.1.1.2.1, fun q hq => ?_⟩, fun q hq => ?_⟩
      · obtain ⟨⟨t1, t2, t3, t4⟩, m1, m2, m3, m4, m5⟩ := R.2.2.2.1.1.2.2 q hq
        unfold bckS
        by_cases e : q = p
        · subst e
          rw [if_pos rfl]
          refine ⟨⟨?_, ?_, ?_, ?_⟩, m1, m2, hb, m4, m5⟩
          · rw [fE.2.1 _ (by omega)]; exact t1
          · rw [fE.2.1 _ (by omega)]; exact t2
          · rw [mset_s]; rfl
          · rw [fE.2.1 _ (by omega)]; exact t4
        · rw [if_neg e]
          refine ⟨⟨?_, ?_, ?_, ?_⟩, m1, m2, m3, m4, m5⟩
          · rw [fE.2.1 _ (by omega)]; exact t1
          · rw [fE.2.1 _ (by omega)]; exact t2
          · rw [fE.2.1 _ (by omega)]; exact t3
          · rw [fE.2.1 _ (by omega)]; exact t4
      · have ko := R.2.2.2.1.2.1 q hq
        unfold bckS
        split
        · exact ko.buck hb
        · exact ko
    have D : MD (mset M 8 (8 * p + 2) (nI b)) K.2.2.2.1 K.2.2.2.2 := R.2.2.2.2.fr (fE.2.2 26 (by decide) (by decide)) (fE.1 20 (by omega) (by decide))
    obtain ⟨M2, q1, q2, -⟩ := r_isDrawn V D
    refine ⟨(nI (bitsN (bckB K p) (b + 1)), nI (b + 1), M2), ?_, rfl, rfl, fE.frA (by decide) q2⟩
    show F10_bucketOf_p17 _ _ (nI p) (mm 8 (8 * p + 2)) (nI (bitsN (bckB K p) b)) (nI b) M = _
    unfold F10_bucketOf_p17 F10_bucketOf_b52
    simp only [lt]
    rw [if_neg (show ¬ (2 : Int32) ≤ nI b from nI_ge (b := 2) hb (by decide)), zm8, za2, ckI (show 8 * p + 2 < 64 by omega) (by decide), nI_clamp (show 8 * p + 2 < 2 ^ 31 by omega), q1, Option.bind_some, nI_1 b]
    show (if b2i (bckB K p b) = 0 then _ else _) = _
    cases c : bckB K p b with
    | false => rw [if_pos (show b2i false = 0 from rfl), bits_or0 (bckB K p) c]
    | true => rw [if_neg (show ¬ b2i true = 0 by decide), bits_step (bckB K p) (by omega) c]
  · rintro n ⟨x, y, M⟩ ⟨e1, e2, f⟩
    dsimp only at e1 e2 f
    refine ⟨mset M 8 (8 * p + 2) (mm 8 (8 * p + 2)), ?_, f.back (by decide)⟩
    show F10_bucketOf_p17 _ _ (nI p) (mm 8 (8 * p + 2)) x y M = _
    unfold F10_bucketOf_p17 F10_bucketOf_b60 aBucketOf
    rw [e1, e2, if_pos (show (2 : Int32) ≤ nI 2 by decide), zm8, za2, ckI (show 8 * p + 2 < 64 by omega) (by decide), nI_clamp (show 8 * p + 2 < 2 ^ 31 by omega)]
