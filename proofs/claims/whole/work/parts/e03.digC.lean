/-! the digest, the class: all of it -/
def DG (K : KX) (t2 t3 l f1 f2 : Int32) : Int64 := EDK K (fldA (SDK K) (fldA (WDK K) (hcI (hcI (fldA (fun j a => hcI a (aCount K t2 t3 l (nI j))) 17 8) f1) f2) K.1.1) K.2.2.1.1)
theorem d9_sayings {mc : Mem} {K : KX} (I : CI mc K) (a : Int64) : ∃ mc', F9_digest_b87 a mc = some (EDK K (fldA (SDK K) a K.2.2.1.1), mc') ∧ FC mc mc' ∧ CI mc' K := by
  have n8 := I.1.n8
  unfold F9_digest_b87
  refine lpF (fun m (x : Int64 × Int32 × Mem) => F9_digest_h89 F9_digest_b113 m x.1 x.2.1 x.2.2) (fun i x => x.1 = fldA (SDK K) a i ∧ x.2.1 = nI i ∧ FC mc x.2.2 ∧ CI x.2.2 K) (fun r => ∃ mc', r = some (EDK K (fldA (SDK K) a K.2.2.1.1), mc') ∧ FC mc mc' ∧ CI mc' K) K.2.2.1.1 (by omega) ?_ ?_ (a, 0, mc) ⟨rfl, rfl, FC.refl mc, I⟩
  · rintro m i ⟨x, y, M⟩ hi ⟨e1, e2, f, J⟩
    dsimp only at e1 e2 f J
    left
    obtain ⟨M', c1, c2, c3⟩ := d9_saying J hi x
    refine ⟨(SDK K i x, nI (i + 1), M'), ?_, by dsimp only; rw [e1, fldA_s], rfl, f.trans c2, c3⟩
    show F9_digest_p89 _ _ _ y M = _
    unfold F9_digest_p89
    rw [e2, J.1.2.2.1.2.1, if_neg (nI_ge hi (by omega)), c1, Option.bind_some, nI_1]
  · rintro m ⟨x, y, M⟩ ⟨e1, e2, f, J⟩
    dsimp only at e1 e2 f J
    obtain ⟨M', c1, c2, c3⟩ := d9_end J x
    refine ⟨M', ?_, f.trans c2, c3⟩
    show F9_digest_p89 _ _ _ y M = _
    unfold F9_digest_p89
    rw [e2, J.1.2.2.1.2.1, if_pos (nI_le (Nat.le_refl _) (by omega)), c1, e1]
theorem d9_wells {mc : Mem} {K : KX} (I : CI mc K) (h8 : K.1.1 ≤ 8) (a : Int64) : ∃ mc', F9_digest_b61 a mc = some (EDK K (fldA (SDK K) (fldA (WDK K) a K.1.1) K.2.2.1.1), mc') ∧ FC mc mc' ∧ CI mc' K := by
  unfold F9_digest_b61
  refine lpF (fun m (x : Int64 × Int32 × Mem) => F9_digest_h63 F9_digest_b87 m x.1 x.2.1 x.2.2) (fun i x => x.1 = fldA (WDK K) a i ∧ x.2.1 = nI i ∧ FC mc x.2.2 ∧ CI x.2.2 K) (fun r => ∃ mc', r = some (EDK K (fldA (SDK K) (fldA (WDK K) a K.1.1) K.2.2.1.1), mc') ∧ FC mc mc' ∧ CI mc' K) K.1.1 (by omega) ?_ ?_ (a, 0, mc) ⟨rfl, rfl, FC.refl mc, I⟩
  · rintro m i ⟨x, y, M⟩ hi ⟨e1, e2, f, J⟩
    dsimp only at e1 e2 f J
    left
    obtain ⟨M', c1, c2, c3⟩ := d9_well J h8 hi x
    refine ⟨(WDK K i x, nI (i + 1), M'), ?_, by dsimp only; rw [e1, fldA_s], rfl, f.trans c2, c3⟩
    show F9_digest_p63 _ _ _ y M = _
    unfold F9_digest_p63
    rw [e2, J.1.1.1.2.1, if_neg (nI_ge hi (by omega)), c1, Option.bind_some, nI_1]
  · rintro m ⟨x, y, M⟩ ⟨e1, e2, f, J⟩
    dsimp only at e1 e2 f J
    obtain ⟨M', c1, c2, c3⟩ := d9_sayings J x
    refine ⟨M', ?_, f.trans c2, c3⟩
    show F9_digest_p63 _ _ _ y M = _
    unfold F9_digest_p63
    rw [e2, J.1.1.1.2.1, if_pos (nI_le (Nat.le_refl _) (by omega)), c1, e1]
theorem d9_faults (mc : Mem) (a : Int64) : F9_digest_b31 a mc = F9_digest_b61 (hcI (hcI a (mc 2 2)) (mc 4 2)) mc := by
  unfold F9_digest_b31
  refine lpF (fun m (x : Int64 × Int32) => F9_digest_h33 F9_digest_b61 m x.1 x.2 mc) (fun i x => x.1 = fldA (fun j a => hcI a (mc (2 + 2 * j) 2)) a i ∧ x.2 = nI i) (fun r => r = F9_digest_b61 (hcI (hcI a (mc 2 2)) (mc 4 2)) mc) 2 (by decide) ?_ ?_ (a, 0) ⟨rfl, rfl⟩
  · rintro m i ⟨x, y⟩ hi ⟨e1, e2⟩
    dsimp only at e1 e2
    left
    refine ⟨(hcI x (mc (2 + 2 * i) 2), nI (i + 1)), ?_, by dsimp only; rw [e1]; exact (fldA_s (fun j a => hcI a (mc (2 + 2 * j) 2)) _ i).symm, rfl⟩
    show F9_digest_p33 _ _ _ y mc = _
    unfold F9_digest_p33 F9_fault
    rw [e2, if_neg (show ¬ (2 : Int32) ≤ nI i by rw [zl2 (by omega)]; omega), f9_b, if_pos (show (0 : Int32) ≤ nI i ∧ nI i < (2 : Int32) from of_i (b := 2) hi (by omega)), ckI hi (by decide), nI_clamp (by omega), Option.bind_some, hcI_eq, nI_1]
  · rintro m ⟨x, y⟩ ⟨e1, e2⟩
    dsimp only at e1 e2
    show F9_digest_p33 _ _ _ y mc = _
    unfold F9_digest_p33
    rw [e2, if_pos (show (2 : Int32) ≤ nI 2 by decide), e1, fldA_s, fldA_s]
    rfl
theorem d9_all {mc : Mem} {K : KX} (I : CI mc K) (h8 : K.1.1 ≤ 8) : ∃ mc', F9_digest mc = some (DG K (mc 2 1) (mc 4 1) (mc 0 6) (mc 2 2) (mc 4 2), mc') ∧ FC mc mc' ∧ CI mc' K := by
  unfold F9_digest DG
  refine lpF (fun m (x : Int64 × Int32 × Mem) => F9_digest_h6 F9_digest_b31 m x.1 x.2.1 x.2.2) (fun i x => x.1 = fldA (fun j a => hcI a (aCount K (mc 2 1) (mc 4 1) (mc 0 6) (nI j))) 17 i ∧ x.2.1 = nI i ∧ FC mc x.2.2 ∧ CI x.2.2 K) (fun r => ∃ mc', r = some (EDK K (fldA (SDK K) (fldA (WDK K) (hcI (hcI (fldA (fun j a => hcI a (aCount K (mc 2 1) (mc 4 1) (mc 0 6) (nI j))) 17 8) (mc 2 2)) (mc 4 2)) K.1.1) K.2.2.1.1), mc') ∧ FC mc mc' ∧ CI mc' K) 8 (by decide) ?_ ?_ (17, 0, mc) ⟨rfl, rfl, FC.refl mc, I⟩
  · rintro m i ⟨x, y, M⟩ hi ⟨e1, e2, f, J⟩
    dsimp only at e1 e2 f J
    left
    obtain ⟨M', c1, c2, c3⟩ := c_count J (nI i)
    rw [f.1 2 (by decide) (by decide), f.1 4 (by decide) (by decide), f.2 6 (by decide) (by decide)] at c1
    refine ⟨(hcI x (aCount K (mc 2 1) (mc 4 1) (mc 0 6) (nI i)), nI (i + 1), M'), ?_, by dsimp only; rw [e1]; exact (fldA_s (fun j a => hcI a (aCount K (mc 2 1) (mc 4 1) (mc 0 6) (nI j))) _ i).symm, rfl, f.trans c2, c3⟩
    show F9_digest_p6 _ _ _ y M = _
    unfold F9_digest_p6
    rw [e2, if_neg (show ¬ (8 : Int32) ≤ nI i by rw [zl8 (by omega)]; omega), c1, Option.bind_some, hcI_eq, nI_1]
  · rintro m ⟨x, y, M⟩ ⟨e1, e2, f, J⟩
    dsimp only at e1 e2 f J
    obtain ⟨M', c1, c2, c3⟩ := d9_wells J h8 (hcI (hcI x (M 2 2)) (M 4 2))
    refine ⟨M', ?_, f.trans c2, c3⟩
    show F9_digest_p6 _ _ _ y M = _
    unfold F9_digest_p6
    rw [e2, if_pos (show (8 : Int32) ≤ nI 8 by decide), d9_faults, c1, e1, f.1 2 (by decide) (by decide), f.1 4 (by decide) (by decide)]
