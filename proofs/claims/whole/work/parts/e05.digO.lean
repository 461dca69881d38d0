/-! the digest, both sides -/
theorem r_reads {mm : Mem} {T : TX} {ev : EV × Nat} {dr : Nat × EV} (R : RI mm T ev dr) (hb0 : ∀ i, i < T.1.1 → T.1.2 i < 256) (hb1 : ∀ i, i < T.2.1 → T.2.2 i < 256) (h0 : T.1.1 ≤ 23) (h1 : T.2.1 ≤ 63) : ∃ M1 M2, F10_readsText 0 mm = some (en (fW T.1.2 T.1.1), M1) ∧ F10_readsText 1 M1 = some (en (fS T.2.2 T.2.1), M2) ∧ FF mm M2 ∧ RB M2 (KT T ev dr) := by
  obtain ⟨⟨⟨t1, t2⟩, t3, t4⟩, e, ⟨n1, n2⟩, d⟩ := R
  obtain ⟨M1, p1, p2, p3, p4⟩ := r_readsWells t1 t2 hb0 h0
  obtain ⟨M2, q1, q2, q3, q4⟩ := r_readsSays (mm := M1) (by rw [p2 6 (by decide) (by decide)]; exact t3) (fun i hi => by rw [p2 5 (by decide) (by decide)]; exact t4 i hi) hb1 h1
  have f2 : FF mm M2 := ⟨fun k hk => (q2 k (by omega) (by omega)).trans (p2 k (by omega) (by omega)), fun i a b _ _ => (q3 i b).trans (p3 i a)⟩
  refine ⟨M1, M2, ?_, ?_, f2, p4.congr (q3 7 (by decide)) (q2 7 (by decide) (by decide)), e.congr (f2.2 11 (by decide) (by decide) (by decide) (by decide)) (f2.2 13 (by decide) (by decide) (by decide) (by decide)) (f2.1 9 (by omega)), ⟨(f2.2 13 (by decide) (by decide) (by decide) (by decide)).trans n1, (f2.2 14 (by decide) (by decide) (by decide) (by decide)).trans n2⟩, q4, d.fr (f2.2 26 (by decide) (by decide) (by decide) (by decide)) (f2.1 20 (by omega))⟩
  · unfold F10_readsText
    rw [if_pos rfl, p1, Option.bind_some]
  · unfold F10_readsText
    rw [if_neg (show ¬ (1 : Int32) = 0 by decide), q1, Option.bind_some]
theorem d10_sayings {mm : Mem} {K : KX} (B : RB mm K) (a : Int64) : ∃ mm', F10_digest_b80 a mm = some (EDK K (fldA (SDK K) a K.2.2.1.1), mm') ∧ FF mm mm' := by
  have n8 := B.n8
  unfold F10_digest_b80
  refine lpF (fun m (x : Int64 × Int32 × Mem) => F10_digest_h82 F10_digest_b103 m x.1 x.2.1 x.2.2) (fun i x => x.1 = fldA (SDK K) a i ∧ x.2.1 = nI i ∧ FrB mm x.2.2) (fun r => ∃ mm', r = some (EDK K (fldA (SDK K) a K.2.2.1.1), mm') ∧ FF mm mm') K.2.2.1.1 (by omega) ?_ ?_ (a, 0, mm) ⟨rfl, rfl, FrB.refl mm⟩
  · rintro m i ⟨x, y, M⟩ hi ⟨e1, e2, f⟩
    dsimp only at e1 e2 f
    left
    have BM := B.fr f
    obtain ⟨M', c1, c2⟩ := d10_saying BM hi x
    refine ⟨(SDK K i x, nI (i + 1), M'), ?_, by dsimp only; rw [e1, fldA_s], rfl, f.trans c2⟩
    show F10_digest_p82 _ _ _ y M = _
    unfold F10_digest_p82
    rw [e2, BM.2.2.2.1.1.2.1, if_neg (nI_ge hi (by omega)), c1, Option.bind_some, nI_1]
  · rintro m ⟨x, y, M⟩ ⟨e1, e2, f⟩
    dsimp only at e1 e2 f
    have BM := B.fr f
    obtain ⟨M', c1, c2⟩ := d10_end BM x
    refine ⟨M', ?_, (FF.of f).trans c2⟩
    show F10_digest_p82 _ _ _ y M = _
    unfold F10_digest_p82
    rw [e2, BM.2.2.2.1.1.2.1, if_pos (nI_le (Nat.le_refl _) (by omega)), c1, e1]
theorem d10_wells {mm : Mem} {K : KX} (B : RB mm K) (a : Int64) : ∃ mm', F10_digest_h59 F10_digest_b80 FU a 0 mm = some (EDK K (fldA (SDK K) (fldA (WDK K) a K.1.1) K.2.2.1.1), mm') ∧ FF mm mm' := by
  have h8 := B.w8
  refine lpF (fun m (x : Int64 × Int32 × Mem) => F10_digest_h59 F10_digest_b80 m x.1 x.2.1 x.2.2) (fun i x => x.1 = fldA (WDK K) a i ∧ x.2.1 = nI i ∧ FrB mm x.2.2) (fun r => ∃ mm', r = some (EDK K (fldA (SDK K) (fldA (WDK K) a K.1.1) K.2.2.1.1), mm') ∧ FF mm mm') K.1.1 (by omega) ?_ ?_ (a, 0, mm) ⟨rfl, rfl, FrB.refl mm⟩
  · rintro m i ⟨x, y, M⟩ hi ⟨e1, e2, f⟩
    dsimp only at e1 e2 f
    left
    have BM := B.fr f
    obtain ⟨M', c1, c2⟩ := d10_well BM hi x
    refine ⟨(WDK K i x, nI (i + 1), M'), ?_, by dsimp only; rw [e1, fldA_s], rfl, f.trans c2⟩
    show F10_digest_p59 _ _ _ y M = _
    unfold F10_digest_p59
    rw [e2, BM.1.2.1, if_neg (nI_ge hi (by omega)), c1, Option.bind_some, nI_1]
  · rintro m ⟨x, y, M⟩ ⟨e1, e2, f⟩
    dsimp only at e1 e2 f
    have BM := B.fr f
    obtain ⟨M', c1, c2⟩ := d10_sayings BM x
    refine ⟨M', ?_, (FF.of f).trans c2⟩
    show F10_digest_p59 _ _ _ y M = _
    unfold F10_digest_p59
    rw [e2, BM.1.2.1, if_pos (nI_le (Nat.le_refl _) (by omega)), c1, e1]
theorem d10_all {mc mm : Mem} {T : TX} {ev : EV × Nat} {dr : Nat × EV} (I : IV mc mm T ev dr) : ∃ mm', F10_digest mm = some (DG (KT T ev dr) (mc 2 1) (mc 4 1) (mc 0 6) (mc 2 2) (mc 4 2), mm') ∧ FF mm mm' := by
  unfold F10_digest DG
  refine lpF (fun m (x : Int64 × Int32 × Mem) => F10_digest_h6 F10_digest_b31 m x.1 x.2.1 x.2.2) (fun i x => x.1 = fldA (fun j a => hcI a (aCount (KT T ev dr) (mc 2 1) (mc 4 1) (mc 0 6) (nI j))) 17 i ∧ x.2.1 = nI i ∧ FF mm x.2.2) (fun r => ∃ mm', r = some (EDK (KT T ev dr) (fldA (SDK (KT T ev dr)) (fldA (WDK (KT T ev dr)) (hcI (hcI (fldA (fun j a => hcI a (aCount (KT T ev dr) (mc 2 1) (mc 4 1) (mc 0 6) (nI j))) 17 8) (mc 2 2)) (mc 4 2)) (KT T ev dr).1.1) (KT T ev dr).2.2.1.1), mm') ∧ FF mm mm') 8 (by decide) ?_ ?_ (17, 0, mm) ⟨rfl, rfl, FF.refl mm⟩
  · rintro m i ⟨x, y, M⟩ hi ⟨e1, e2, f⟩
    dsimp only at e1 e2 f
    left
    obtain ⟨M', c1, c2⟩ := m_count (I.q (FC.refl mc) I.2.1 f) (nI i)
    refine ⟨(hcI x (aCount (KT T ev dr) (mc 2 1) (mc 4 1) (mc 0 6) (nI i)), nI (i + 1), M'), ?_, by dsimp only; rw [e1]; exact (fldA_s (fun j a => hcI a (aCount (KT T ev dr) (mc 2 1) (mc 4 1) (mc 0 6) (nI j))) _ i).symm, rfl, f.trans c2⟩
    show F10_digest_p6 _ _ _ y M = _
    unfold F10_digest_p6
    rw [e2, if_neg (show ¬ (8 : Int32) ≤ nI i by rw [zl8 (by omega)]; omega), c1, Option.bind_some, hcI_eq, nI_1]
  · rintro m ⟨x, y, M⟩ ⟨e1, e2, f⟩
    dsimp only at e1 e2 f
    obtain ⟨⟨⟨a1, a2, a5⟩, a3, a4, a6⟩, -, r, -⟩ := I
    obtain ⟨M1, M2, r1, r2, g, B⟩ := r_reads (r.ff f) (fun i hi => (a1.2 i hi).2) (fun i hi => (a3.2 i hi).2) a2 a4
    obtain ⟨M3, s1, s2⟩ := d10_wells B (hcI (hcI x (mc 2 2)) (mc 4 2))
    refine ⟨M3, ?_, f.trans (g.trans s2)⟩
    show F10_digest_p6 _ _ _ y M = _
    unfold F10_digest_p6 F10_digest_b31
    rw [e2, if_pos (show (8 : Int32) ≤ nI 8 by decide), r1, Option.bind_some]
    dsimp only
    rw [r2, Option.bind_some]
    dsimp only
    rw [← a5, ← a6, hcI_eq, hcI_eq, s1, e1]
theorem ls_33 : LS_33 Inv := by
  rintro mc mm ⟨T, ev, dr, I⟩
  obtain ⟨M, f1, f2, B, L⟩ := I.find
  obtain ⟨mc', c1, c2, c3⟩ := d9_all I.2.1 B.w8
  obtain ⟨mm', q1, q2⟩ := d10_all I
  exact ⟨_, mc', mm', c1, q1, T, ev, dr, I.q c2 c3 q2⟩
