/-! the digest, the reference -/
theorem d10_well {mm : Mem} {K : KX} (B : RB mm K) {k : Nat} (hk : k < K.1.1) (a : Int64) : ∃ mm', F10_tellsWell a (nI k) mm = some (WDK K k a, mm') ∧ FrB mm mm' := by
  have h8 := B.w8
  obtain ⟨N, n1, n2, -, L⟩ := B.rv.lives
  have BN : RB N K := B.fr (FrB.of n2)
  unfold F10_tellsWell
  rw [n1, Option.bind_some]
  refine lpF (fun m (x : Int64 × Int32) => F10_tellsWell_h10 (F10_tellsWell_b39 a (nI k)) a (nI k) m x.1 x.2 N) (fun i x => x.1 = fldA (fun j a => hcI a (aWellOf K.1 k (nI j))) a i ∧ x.2 = nI i) (fun r => ∃ mm', r = some (WDK K k a, mm') ∧ FrB mm mm') 4 (by decide) ?_ ?_ (a, 0) ⟨rfl, rfl⟩
  · rintro m i ⟨x, y⟩ hi ⟨e1, e2⟩
    dsimp only at e1 e2
    left
    refine ⟨(hcI x (aWellOf K.1 k (nI i)), nI (i + 1)), ?_, by dsimp only; rw [e1]; exact (fldA_s (fun j a => hcI a (aWellOf K.1 k (nI j))) _ i).symm, rfl⟩
    show F10_tellsWell_p10 _ _ _ _ _ y N = _
    unfold F10_tellsWell_p10
    rw [e2, if_neg (show ¬ (4 : Int32) ≤ nI i by rw [zl4 (by omega)]; omega), r_wellBy BN.1 hk hi, Option.bind_some, hcI_eq, nI_1]
  · rintro m ⟨x, y⟩ ⟨e1, e2⟩
    dsimp only at e1 e2
    have head : F10_tellsWell_h10 (F10_tellsWell_b39 a (nI k)) a (nI k) (m + 1) x y N = F10_tellsWell_h72 (F10_tellsWell_b101 a (nI k)) a (nI k) FU (hcI (hcI x (nI (bitsN (fun p => hrS K.1 (H0 K) (K.2.2.1.2.1 p) k) K.2.2.1.1))) (en (minF (fun p => fhS K.1 (H0 K) (K.2.2.1.2.1 p) k) K.2.2.1.1))) 0 N := by
      show F10_tellsWell_p10 _ _ _ _ _ _ N = _
      unfold F10_tellsWell_p10 F10_tellsWell_b39
      rw [e2, if_pos (show (4 : Int32) ≤ nI 4 by decide), r_hears L (by omega), Option.bind_some, r_soon L (by omega), Option.bind_some, hcI_eq, hcI_eq]
    dsimp only
    rw [head, e1]
    refine lpF (fun m (x : Int64 × Int32 × Mem) => F10_tellsWell_h72 (F10_tellsWell_b101 a (nI k)) a (nI k) m x.1 x.2.1 x.2.2) (fun i x => x.1 = fldA (fun j a => hcI a (aToss K k (nI j))) (hcI (hcI (fldA (fun j a => hcI a (aWellOf K.1 k (nI j))) a 4) (nI (bitsN (fun p => hrS K.1 (H0 K) (K.2.2.1.2.1 p) k) K.2.2.1.1))) (en (minF (fun p => fhS K.1 (H0 K) (K.2.2.1.2.1 p) k) K.2.2.1.1))) i ∧ x.2.1 = nI i ∧ FrB mm x.2.2) (fun r => ∃ mm', r = some (WDK K k a, mm') ∧ FrB mm mm') 3 (by decide) ?_ ?_ (_, 0, N) ⟨rfl, rfl, FrB.of n2⟩
    · rintro m i ⟨x, y, M⟩ hi ⟨e1, e2, f⟩
      dsimp only at e1 e2 f
      left
      obtain ⟨M', c1, c2⟩ := r_tossOf (B.fr f) (show k < 8 by omega) (nI i)
      refine ⟨(hcI x (aToss K k (nI i)), nI (i + 1), M'), ?_, by dsimp only; rw [e1]; exact (fldA_s (fun j a => hcI a (aToss K k (nI j))) _ i).symm, rfl, f.trans c2⟩
      show F10_tellsWell_p72 _ _ _ _ _ y M = _
      unfold F10_tellsWell_p72
      rw [e2, if_neg (show ¬ (3 : Int32) ≤ nI i by rw [zl3 (by omega)]; omega), c1, Option.bind_some, hcI_eq, nI_1]
    · rintro m ⟨x, y, M⟩ ⟨e1, e2, f⟩
      dsimp only at e1 e2 f
      obtain ⟨N1, r1, s1⟩ := r_openOf (B.fr f) (show k < 8 by omega) (-1)
      have f1 := f.trans s1
      obtain ⟨N2, r2, s2⟩ := r_openOf (B.fr f1) (show k < 8 by omega) 0
      have f2 := f1.trans s2
      obtain ⟨N3, r3, s3⟩ := r_stones (B.fr f2) hk
      have f3 := f2.trans s3
      obtain ⟨N4, r4, s4, -⟩ := r_stood (B.fr f3) hk
      have f4 := f3.trans s4
      obtain ⟨N5, r5, s5⟩ := r_askOf (B.fr f4) hk
      refine ⟨N5, ?_, f4.trans s5⟩
      show F10_tellsWell_p72 _ _ _ _ _ y M = _
      unfold F10_tellsWell_p72 F10_tellsWell_b101
      rw [e2, if_pos (show (3 : Int32) ≤ nI 3 by decide), r1, Option.bind_some]
      dsimp only
      rw [r2, Option.bind_some]
      dsimp only
      rw [r3, Option.bind_some]
      dsimp only
      rw [r4, Option.bind_some]
      dsimp only
      rw [r5, Option.bind_some]
      dsimp only
      rw [e1, hcI_eq, hcI_eq, hcI_eq, hcI_eq, hcI_eq]
      unfold WDK WD
      exact rfl
theorem d10_hour {mm : Mem} {K : KX} (B : RB mm K) (L : RLv mm K.1 (H0 K) K.2.2.1.1 K.2.2.1.2.1) {h p : Nat} (hh : h < 40) (hp : p < K.2.2.1.1) (a : Int64) : F10_tellsHour a (nI h) (nI p) mm = some (HD K p h a) := by
  unfold F10_tellsHour HD
  refine lpF (fun m (x : Int64 × Int32) => F10_tellsHour_h6 a (nI h) (nI p) mm m x.1 x.2) (fun i x => x.1 = fldA (fun j a => hcI a (aAtOf K.1 (H0 K) K.2.2.1.2.1 K.2.2.1.2.2 h p (nI j))) a i ∧ x.2 = nI i) (fun r => r = some (fldA (fun j a => hcI a (aAtOf K.1 (H0 K) K.2.2.1.2.1 K.2.2.1.2.2 h p (nI j))) a 5)) 5 (by decide) ?_ ?_ (a, 0) ⟨rfl, rfl⟩
  · rintro m i ⟨x, y⟩ hi ⟨e1, e2⟩
    dsimp only at e1 e2
    left
    refine ⟨(hcI x (aAtOf K.1 (H0 K) K.2.2.1.2.1 K.2.2.1.2.2 h p (nI i)), nI (i + 1)), ?_, by dsimp only; rw [e1]; exact (fldA_s (fun j a => hcI a (aAtOf K.1 (H0 K) K.2.2.1.2.1 K.2.2.1.2.2 h p (nI j))) _ i).symm, rfl⟩
    show F10_tellsHour_p6 _ _ _ _ mm _ y = _
    unfold F10_tellsHour_p6
    rw [e2, if_neg (show ¬ (5 : Int32) ≤ nI i by rw [zl5 (by omega)]; omega), r_atOf L B.2.2.2.1.2.2 hh hp, Option.bind_some, hcI_eq, nI_1]
  · rintro m ⟨x, y⟩ ⟨e1, e2⟩
    dsimp only at e1 e2
    show F10_tellsHour_p6 _ _ _ _ mm _ y = _
    unfold F10_tellsHour_p6
    rw [e2, if_pos (show (5 : Int32) ≤ nI 5 by decide), e1]
theorem d10_saying {mm : Mem} {K : KX} (B : RB mm K) {p : Nat} (hp : p < K.2.2.1.1) (a : Int64) : ∃ mm', F10_tellsSaying a (nI p) mm = some (SDK K p a, mm') ∧ FrB mm mm' := by
  have n8 := B.n8
  obtain ⟨N, n1, n2, -, L⟩ := B.rv.lives
  have BN : RB N K := B.fr (FrB.of n2)
  unfold F10_tellsSaying
  rw [n1, Option.bind_some]
  refine lpF (fun m (x : Int64 × Int32) => F10_tellsSaying_h10 (F10_tellsSaying_b40 a (nI p)) a (nI p) m x.1 x.2 N) (fun i x => x.1 = fldA (fun j a => hcI a (aSayOf K.2.2.1.2.1 K.2.2.1.2.2 p (nI j))) a i ∧ x.2 = nI i) (fun r => ∃ mm', r = some (SDK K p a, mm') ∧ FrB mm mm') 8 (by decide) ?_ ?_ (a, 0) ⟨rfl, rfl⟩
  · rintro m i ⟨x, y⟩ hi ⟨e1, e2⟩
    dsimp only at e1 e2
    left
    refine ⟨(hcI x (aSayOf K.2.2.1.2.1 K.2.2.1.2.2 p (nI i)), nI (i + 1)), ?_, by dsimp only; rw [e1]; exact (fldA_s (fun j a => hcI a (aSayOf K.2.2.1.2.1 K.2.2.1.2.2 p (nI j))) _ i).symm, rfl⟩
    show F10_tellsSaying_p10 _ _ _ _ _ y N = _
    unfold F10_tellsSaying_p10
    rw [e2, if_neg (show ¬ (8 : Int32) ≤ nI i by rw [zl8 (by omega)]; omega), r_sayBy BN.2.2.2.1 hp hi, Option.bind_some, hcI_eq, nI_1]
  · rintro m ⟨x, y⟩ ⟨e1, e2⟩
    dsimp only at e1 e2
    obtain ⟨A5, r5, s5⟩ := r_tellOf BN hp (show 0 < 8 by decide) (nI 0)
    obtain ⟨A6, r6, s6⟩ := r_tellOf (BN.fr s5) hp (show 0 < 8 by decide) (nI 1)
    have f6 := s5.trans s6
    obtain ⟨A7, r7, s7⟩ := r_bucketOf (BN.fr f6) hp
    have f7 := f6.trans s7
    obtain ⟨A8, r8, s8⟩ := r_chanceOf (BN.fr f7) (show 5 ≤ 16 by decide) hp (show 0 < 8 by decide) (nI 0)
    have f8 := f7.trans s8
    obtain ⟨A9, r9, s9⟩ := r_chanceOf (BN.fr f8) (show 5 ≤ 16 by decide) hp (show 0 < 8 by decide) (nI 1)
    refine ⟨A9, ?_, (FrB.of n2).trans (f8.trans s9)⟩
    show F10_tellsSaying_p10 _ _ _ _ _ y N = _
    unfold F10_tellsSaying_p10 F10_tellsSaying_b40
    rw [e2, if_pos (show (8 : Int32) ≤ nI 8 by decide), show (0 : Int32) = nI 0 from rfl, show (8 : Int32) = nI 8 from rfl, show (20 : Int32) = nI 20 from rfl, show (39 : Int32) = nI 39 from rfl, show (1 : Int32) = nI 1 from rfl, show (5 : Int32) = nI 5 from rfl, d10_hour BN L (show 0 < 40 by decide) hp, Option.bind_some, d10_hour BN L (show 8 < 40 by decide) hp, Option.bind_some, d10_hour BN L (show 20 < 40 by decide) hp, Option.bind_some, d10_hour BN L (show 39 < 40 by decide) hp, Option.bind_some, r5, Option.bind_some]
    dsimp only
    rw [r6, Option.bind_some]
    dsimp only
    rw [r7, Option.bind_some]
    dsimp only
    rw [r8, Option.bind_some]
    dsimp only
    rw [r9, Option.bind_some]
    dsimp only
    rw [hcI_eq, hcI_eq, hcI_eq, hcL_eq, hcL_eq, e1]
    unfold SDK SD
    exact rfl
theorem d10_end {mm : Mem} {K : KX} (B : RB mm K) (a : Int64) : ∃ mm', F10_digest_b103 a mm = some (EDK K a, mm') ∧ FF mm mm' := by
  obtain ⟨N, n1, n2, -, L⟩ := B.rv.lives
  have BN : RB N K := B.fr (FrB.of n2)
  obtain ⟨A4, r4, s4⟩ := r_ironOf BN 0
  obtain ⟨A5, r5, s5⟩ := r_ironOf (BN.fr s4) 1
  have f5 := s4.trans s5
  obtain ⟨A6, r6, s6⟩ := r_neverNow (BN.fr f5)
  have f6 := f5.trans s6
  obtain ⟨A7, r7, s7⟩ := r_dayOf (BN.fr f6) 7 (show 6 ≤ 8 by decide) (nI 0)
  have f7 := f6.trans s7
  obtain ⟨A8, r8, s8⟩ := r_dayOf (BN.fr f7) 7 (show 6 ≤ 8 by decide) (nI 1)
  refine ⟨A8, ?_, FF.of ((FrB.of n2).trans (f7.trans s8))⟩
  unfold F10_digest_b103
  rw [n1, Option.bind_some, r_gone L, Option.bind_some, r_babel L BN.1.2.1, Option.bind_some, r_babel L BN.1.2.1, Option.bind_some, r4, Option.bind_some]
  dsimp only
  rw [r5, Option.bind_some]
  dsimp only
  rw [r6, Option.bind_some]
  dsimp only
  rw [show F10_dayOf 7 6 0 A6 = F10_dayOf 7 (nI 6) (nI 0) A6 from rfl, r7, Option.bind_some]
  dsimp only
  rw [show F10_dayOf 7 6 1 A7 = F10_dayOf 7 (nI 6) (nI 1) A7 from rfl, r8, Option.bind_some]
  dsimp only
  rw [hcI_eq, hcI_eq, hcI_eq, hcI_eq, hcI_eq, hcI_eq, hcI_eq, hcI_eq]
  unfold EDK ED aGone
  exact rfl
