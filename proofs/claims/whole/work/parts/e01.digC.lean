/-! the digest, the class -/
def fldA (g : Nat → Int64 → Int64) (a : Int64) : Nat → Int64
  | 0 => a
  | n + 1 => g n (fldA g a n)
theorem fldA_s (g : Nat → Int64 → Int64) (a : Int64) (n : Nat) : fldA g a (n + 1) = g n (fldA g a n) := rfl
def hcI (a : Int64) (x : Int32) : Int64 := (31 : Int64) * a + x.toInt64
def hcL (a x : Int64) : Int64 := (31 : Int64) * a + x
theorem hcI_eq (a : Int64) (x : Int32) : (31 : Int64) * a + x.toInt64 = hcI a x := rfl
theorem hcL_eq (a x : Int64) : (31 : Int64) * a + x = hcL a x := rfl
def WD (fw : Nat → Int32) (x s : Int32) (ft : Nat → Int32) (o1 o2 s1 s2 q : Int32) (a : Int64) : Int64 := hcI (hcI (hcI (hcI (hcI (fldA (fun j a => hcI a (ft j)) (hcI (hcI (fldA (fun j a => hcI a (fw j)) a 4) x) s) 3) o1) o2) s1) s2) q
def WDK (K : KX) (k : Nat) : Int64 → Int64 := WD (fun j => aWellOf K.1 k (nI j)) (nI (bitsN (fun p => hrS K.1 (H0 K) (K.2.2.1.2.1 p) k) K.2.2.1.1)) (en (minF (fun p => fhS K.1 (H0 K) (K.2.2.1.2.1 p) k) K.2.2.1.1)) (fun j => aToss K k (nI j)) (aOpenOf K k (-1)) (aOpenOf K k 0) (nI (bitsN (stoneB K k) 3)) (nI (bitsN (stoodB K k) 10)) (aAskOf K k)
theorem aWell_in {K : KX} {k j : Nat} (hk : k < K.1.1) (h8 : K.1.1 ≤ 8) (hj : j < 4) : aWell K (nI k) (nI j) = aWellOf K.1 k (nI j) := by
  unfold aWell
  rw [if_pos (of_i hk (by omega)), if_pos (show (0 : Int32) ≤ nI j ∧ nI j < (4 : Int32) from of_i (b := 4) hj (by omega)), nI_clamp (by omega)]
theorem aSoon_in {K : KX} {k : Nat} (hk : k < K.1.1) (h8 : K.1.1 ≤ 8) : aSoon K (nI k) = en (minF (fun p => fhS K.1 (H0 K) (K.2.2.1.2.1 p) k) K.2.2.1.1) := by
  unfold aSoon
  rw [if_pos (of_i hk (by omega)), nI_clamp (by omega)]
theorem aTossV_in {K : KX} {k j : Nat} (hk : k < 8) (hj : j < 3) : aTossV K (nI k) (nI j) = aToss K k (nI j) := by
  unfold aTossV
  rw [if_pos (show (0 : Int32) ≤ nI k ∧ nI k < (8 : Int32) from of_i (b := 8) hk (by omega)), if_pos (show (0 : Int32) ≤ nI j ∧ nI j < (3 : Int32) from of_i (b := 3) hj (by omega)), nI_clamp (by omega)]
theorem aOpen_in {K : KX} {k : Nat} (hk : k < 8) : aOpen K (nI k) (-1) = aOpenOf K k (-1) ∧ aOpen K (nI k) 0 = aOpenOf K k 0 := by
  unfold aOpen
  rw [if_pos (show (0 : Int32) ≤ nI k ∧ nI k < (8 : Int32) from of_i (b := 8) hk (by omega)), if_pos (show (0 : Int32) ≤ nI k ∧ nI k < (8 : Int32) from of_i (b := 8) hk (by omega)), if_pos (Or.inl rfl), if_pos (Or.inr (by decide)), nI_clamp (by omega)]
  exact ⟨rfl, rfl⟩
theorem aStone_in {K : KX} {k : Nat} (hk : k < K.1.1) (h8 : K.1.1 ≤ 8) : aStone K (nI k) 0 = nI (bitsN (stoneB K k) 3) ∧ aStone K (nI k) 1 = nI (bitsN (stoodB K k) 10) := by
  unfold aStone aStoneOf
  rw [if_pos (of_i hk (by omega)), if_pos (of_i hk (by omega)), if_pos (show (0 : Int32) ≤ 0 ∧ (0 : Int32) < 2 by decide), if_pos (show (0 : Int32) ≤ 1 ∧ (1 : Int32) < 2 by decide), if_pos rfl, if_neg (show ¬ (1 : Int32) = 0 by decide), nI_clamp (by omega)]
  exact ⟨rfl, rfl⟩
theorem aAsk_in {K : KX} {k : Nat} (hk : k < K.1.1) (h8 : K.1.1 ≤ 8) : aAsk K (nI k) = aAskOf K k := by
  unfold aAsk
  rw [if_pos (of_i hk (by omega)), nI_clamp (by omega)]
theorem d9_well {mc : Mem} {K : KX} (I : CI mc K) (h8 : K.1.1 ≤ 8) {k : Nat} (hk : k < K.1.1) (a : Int64) : ∃ mc', F9_withWell a (nI k) mc = some (WDK K k a, mc') ∧ FC mc mc' ∧ CI mc' K := by
  unfold F9_withWell
  refine lpF (fun m (x : Int64 × Int32) => F9_withWell_h6 (F9_withWell_b35 a (nI k)) a (nI k) m x.1 x.2 mc) (fun i x => x.1 = fldA (fun j a => hcI a (aWellOf K.1 k (nI j))) a i ∧ x.2 = nI i) (fun r => ∃ mc', r = some (WDK K k a, mc') ∧ FC mc mc' ∧ CI mc' K) 4 (by decide) ?_ ?_ (a, 0) ⟨rfl, rfl⟩
  · rintro m i ⟨x, y⟩ hi ⟨e1, e2⟩
    dsimp only at e1 e2
    subst e1 e2
    left
    refine ⟨(fldA (fun j a => hcI a (aWellOf K.1 k (nI j))) a (i + 1), nI (i + 1)), ?_, rfl, rfl⟩
    show F9_withWell_p6 _ _ _ _ _ (nI i) mc = _
    unfold F9_withWell_p6
    rw [if_neg (show ¬ (4 : Int32) ≤ nI i by rw [zl4 (by omega)]; omega), c_well I.1, aWell_in hk h8 hi, Option.bind_some, hcI_eq, nI_1, fldA_s]
  · rintro m ⟨x, y⟩ ⟨e1, e2⟩
    dsimp only at e1 e2
    obtain ⟨M1, a1, a2, a3⟩ := c_hears I (nI k)
    obtain ⟨M2, b1, b2, b3⟩ := c_soon a3 (nI k)
    have head : F9_withWell_h6 (F9_withWell_b35 a (nI k)) a (nI k) (m + 1) x y mc = F9_withWell_h68 (F9_withWell_b97 a (nI k)) a (nI k) FU (hcI (hcI x (nI (bitsN (fun p => hrS K.1 (H0 K) (K.2.2.1.2.1 p) k) K.2.2.1.1))) (en (minF (fun p => fhS K.1 (H0 K) (K.2.2.1.2.1 p) k) K.2.2.1.1))) 0 M2 := by
      show F9_withWell_p6 _ _ _ _ _ _ mc = _
      unfold F9_withWell_p6 F9_withWell_b35
      rw [e2, if_pos (show (4 : Int32) ≤ nI 4 by decide), a1, Option.bind_some]
      dsimp only
      rw [b1, Option.bind_some, aHears_eq hk h8, aSoon_in hk h8, hcI_eq, hcI_eq]
    dsimp only
    rw [head, e1]
    refine lpF (fun m (x : Int64 × Int32 × Mem) => F9_withWell_h68 (F9_withWell_b97 a (nI k)) a (nI k) m x.1 x.2.1 x.2.2) (fun i x => x.1 = fldA (fun j a => hcI a (aToss K k (nI j))) (hcI (hcI (fldA (fun j a => hcI a (aWellOf K.1 k (nI j))) a 4) (nI (bitsN (fun p => hrS K.1 (H0 K) (K.2.2.1.2.1 p) k) K.2.2.1.1))) (en (minF (fun p => fhS K.1 (H0 K) (K.2.2.1.2.1 p) k) K.2.2.1.1))) i ∧ x.2.1 = nI i ∧ FC mc x.2.2 ∧ CI x.2.2 K) (fun r => ∃ mc', r = some (WDK K k a, mc') ∧ FC mc mc' ∧ CI mc' K) 3 (by decide) ?_ ?_ (_, 0, M2) ⟨rfl, rfl, a2.trans b2, b3⟩
    · rintro m i ⟨x, y, M⟩ hi ⟨e1, e2, f, J⟩
      dsimp only at e1 e2 f J
      left
      obtain ⟨M', c1, c2, c3⟩ := c_toss J (nI k) (nI i)
      refine ⟨(hcI x (aToss K k (nI i)), nI (i + 1), M'), ?_, by dsimp only; rw [e1]; exact (fldA_s (fun j a => hcI a (aToss K k (nI j))) _ i).symm, rfl, f.trans c2, c3⟩
      show F9_withWell_p68 _ _ _ _ _ y M = _
      unfold F9_withWell_p68
      rw [e2, if_neg (show ¬ (3 : Int32) ≤ nI i by rw [zl3 (by omega)]; omega), c1, aTossV_in (show k < 8 by omega) hi, Option.bind_some, hcI_eq, nI_1]
    · rintro m ⟨x, y, M⟩ ⟨e1, e2, f, J⟩
      dsimp only at e1 e2 f J
      obtain ⟨N1, r1, s1, t1⟩ := c_open J (nI k) (-1)
      obtain ⟨N2, r2, s2, t2⟩ := c_open t1 (nI k) 0
      obtain ⟨N3, r3, s3, t3⟩ := c_stone t2 (nI k) 0
      obtain ⟨N4, r4, s4, t4⟩ := c_stone t3 (nI k) 1
      obtain ⟨N5, r5, s5, t5⟩ := c_ask t4 (nI k)
      refine ⟨N5, ?_, f.trans (s1.trans (s2.trans (s3.trans (s4.trans s5)))), t5⟩
      show F9_withWell_p68 _ _ _ _ _ y M = _
      unfold F9_withWell_p68 F9_withWell_b97
      rw [e2, if_pos (show (3 : Int32) ≤ nI 3 by decide), r1, Option.bind_some]
      dsimp only
      rw [r2, Option.bind_some]
      dsimp only
      rw [r3, Option.bind_some]
      dsimp only
      rw [r4, Option.bind_some]
      dsimp only
      rw [r5, Option.bind_some]
      dsimp only
      rw [(aOpen_in (show k < 8 by omega)).1, (aOpen_in (show k < 8 by omega)).2, (aStone_in hk h8).1, (aStone_in hk h8).2, aAsk_in hk h8, e1, hcI_eq, hcI_eq, hcI_eq, hcI_eq, hcI_eq]
      unfold WDK WD
      exact rfl
