/-! the digest, the class: sayings, and the whole -/
def HD (K : KX) (p h : Nat) (a : Int64) : Int64 := fldA (fun j a => hcI a (aAtOf K.1 (H0 K) K.2.2.1.2.1 K.2.2.1.2.2 h p (nI j))) a 5
def SD (fs : Nat → Int32) (hd : Nat → Int64 → Int64) (t1 t2 b : Int32) (c1 c2 : Int64) (a : Int64) : Int64 := hcL (hcL (hcI (hcI (hcI (hd 39 (hd 20 (hd 8 (hd 0 (fldA (fun j a => hcI a (fs j)) a 8))))) t1) t2) b) c1) c2
def SDK (K : KX) (p : Nat) : Int64 → Int64 := SD (fun j => aSayOf K.2.2.1.2.1 K.2.2.1.2.2 p (nI j)) (HD K p) (aTellOf K p 0 0) (aTellOf K p 0 1) (aBucketOf K p) (aChOf (chN K 5 p 0) (16 ^ K.2.1.2) 0) (aChOf (chN K 5 p 0) (16 ^ K.2.1.2) 1)
def ED (g b1 b2 i1 i2 n d1 d2 : Int32) (a : Int64) : Int64 := hcI (hcI (hcI (hcI (hcI (hcI (hcI (hcI a g) b1) b2) i1) i2) n) d1) d2
def EDK (K : KX) : Int64 → Int64 := ED (aGone K) (aBabel K.1 (H0 K) K.2.2.1.1 K.2.2.1.2.1 0) (aBabel K.1 (H0 K) K.2.2.1.1 K.2.2.1.2.1 1) (aIronOf K 0) (aIronOf K 1) (aNever K) (aDayOf K 7 6 0) (aDayOf K 7 6 1)
theorem aAt_in {K : KX} {h p j : Nat} (hh : h < 40) (hp : p < K.2.2.1.1) (n8 : K.2.2.1.1 ≤ 8) (hj : j < 5) : aAt K (nI h) (nI p) (nI j) = aAtOf K.1 (H0 K) K.2.2.1.2.1 K.2.2.1.2.2 h p (nI j) := by
  unfold aAt
  rw [if_pos (show (0 : Int32) ≤ nI h ∧ nI h < (40 : Int32) from of_i (b := 40) hh (by omega)), if_pos (of_i hp (by omega)), if_pos (show (0 : Int32) ≤ nI j ∧ nI j < (5 : Int32) from of_i (b := 5) hj (by omega)), nI_clamp (by omega), nI_clamp (by omega)]
theorem aSay_in {K : KX} {p j : Nat} (hp : p < K.2.2.1.1) (n8 : K.2.2.1.1 ≤ 8) (hj : j < 8) : aSay K (nI p) (nI j) = aSayOf K.2.2.1.2.1 K.2.2.1.2.2 p (nI j) := by
  unfold aSay
  rw [if_pos (of_i hp (by omega)), if_pos (show (0 : Int32) ≤ nI j ∧ nI j < (8 : Int32) from of_i (b := 8) hj (by omega)), nI_clamp (by omega)]
theorem aTell_in {K : KX} {p k j : Nat} (hp : p < K.2.2.1.1) (n8 : K.2.2.1.1 ≤ 8) (hk : k < 8) (hj : j < 2) : aTell K (nI p) (nI k) (nI j) = aTellOf K p k (nI j) := by
  unfold aTell
  rw [if_pos (of_i hp (by omega)), if_pos (show (0 : Int32) ≤ nI k ∧ nI k < (8 : Int32) from of_i (b := 8) hk (by omega)), if_pos (show (0 : Int32) ≤ nI j ∧ nI j < (2 : Int32) from of_i (b := 2) hj (by omega)), nI_clamp (by omega), nI_clamp (by omega)]
theorem aBucket_in {K : KX} {p : Nat} (hp : p < K.2.2.1.1) (n8 : K.2.2.1.1 ≤ 8) : aBucket K (nI p) = aBucketOf K p := by
  unfold aBucket
  rw [if_pos (of_i hp (by omega)), nI_clamp (by omega)]
theorem aChance_in {K : KX} {c p t j : Nat} (hc : c < 17) (hp : p < K.2.2.1.1) (n8 : K.2.2.1.1 ≤ 8) (ht : t < 8) (hj : j < 2) : aChance K (nI c) (nI p) (nI t) (nI j) = aChOf (chN K c p t) (16 ^ K.2.1.2) (nI j) := by
  unfold aChance
  rw [if_pos (show (0 : Int32) ≤ nI c ∧ nI c < (17 : Int32) from of_i (b := 17) hc (by omega)), if_pos (of_i hp (by omega)), if_pos (show (0 : Int32) ≤ nI t ∧ nI t < (8 : Int32) from of_i (b := 8) ht (by omega)), if_pos (show (0 : Int32) ≤ nI j ∧ nI j < (2 : Int32) from of_i (b := 2) hj (by omega)), nI_clamp (by omega), nI_clamp (by omega), nI_clamp (by omega)]
theorem aIron_in {K : KX} {j : Nat} (hj : j < 2) : aIron K (nI j) = aIronOf K (nI j) := by
  unfold aIron
  rw [if_pos (show (0 : Int32) ≤ nI j ∧ nI j < (2 : Int32) from of_i (b := 2) hj (by omega))]
theorem aDay_in {K : KX} {s : Int32} {n j : Nat} (hn : n < 9) (hj : j < 2) : aDay K s (nI n) (nI j) = aDayOf K s n (nI j) := by
  unfold aDay
  rw [if_pos (show (0 : Int32) ≤ nI n ∧ nI n < (9 : Int32) from of_i (b := 9) hn (by omega)), if_pos (show (0 : Int32) ≤ nI j ∧ nI j < (2 : Int32) from of_i (b := 2) hj (by omega)), nI_clamp (by omega)]
theorem d9_hour {mc : Mem} {K : KX} (I : CI mc K) {h p : Nat} (hh : h < 40) (hp : p < K.2.2.1.1) (a : Int64) : ∃ mc', F9_withHour a (nI p) (nI h) mc = some (HD K p h a, mc') ∧ FC mc mc' ∧ CI mc' K := by
  have n8 := I.1.n8
  unfold F9_withHour HD
  refine lpF (fun m (x : Int64 × Int32 × Mem) => F9_withHour_h6 a (nI p) (nI h) m x.1 x.2.1 x.2.2) (fun i x => x.1 = fldA (fun j a => hcI a (aAtOf K.1 (H0 K) K.2.2.1.2.1 K.2.2.1.2.2 h p (nI j))) a i ∧ x.2.1 = nI i ∧ FC mc x.2.2 ∧ CI x.2.2 K) (fun r => ∃ mc', r = some (fldA (fun j a => hcI a (aAtOf K.1 (H0 K) K.2.2.1.2.1 K.2.2.1.2.2 h p (nI j))) a 5, mc') ∧ FC mc mc' ∧ CI mc' K) 5 (by decide) ?_ ?_ (a, 0, mc) ⟨rfl, rfl, FC.refl mc, I⟩
  · rintro m i ⟨x, y, M⟩ hi ⟨e1, e2, f, J⟩
    dsimp only at e1 e2 f J
    left
    obtain ⟨M', c1, c2, c3⟩ := c_at J (nI h) (nI p) (nI i)
    refine ⟨(hcI x (aAtOf K.1 (H0 K) K.2.2.1.2.1 K.2.2.1.2.2 h p (nI i)), nI (i + 1), M'), ?_, by dsimp only; rw [e1]; exact (fldA_s (fun j a => hcI a (aAtOf K.1 (H0 K) K.2.2.1.2.1 K.2.2.1.2.2 h p (nI j))) _ i).symm, rfl, f.trans c2, c3⟩
    show F9_withHour_p6 _ _ _ _ _ y M = _
    unfold F9_withHour_p6
    rw [e2, if_neg (show ¬ (5 : Int32) ≤ nI i by rw [zl5 (by omega)]; omega), c1, aAt_in hh hp n8 hi, Option.bind_some, hcI_eq, nI_1]
  · rintro m ⟨x, y, M⟩ ⟨e1, e2, f, J⟩
    dsimp only at e1 e2 f J
    refine ⟨M, ?_, f, J⟩
    show F9_withHour_p6 _ _ _ _ _ y M = _
    unfold F9_withHour_p6
    rw [e2, if_pos (show (5 : Int32) ≤ nI 5 by decide), e1]
theorem d9_saying {mc : Mem} {K : KX} (I : CI mc K) {p : Nat} (hp : p < K.2.2.1.1) (a : Int64) : ∃ mc', F9_withSaying a (nI p) mc = some (SDK K p a, mc') ∧ FC mc mc' ∧ CI mc' K := by
  have n8 := I.1.n8
  unfold F9_withSaying
  refine lpF (fun m (x : Int64 × Int32) => F9_withSaying_h6 (F9_withSaying_b36 a (nI p)) a (nI p) m x.1 x.2 mc) (fun i x => x.1 = fldA (fun j a => hcI a (aSayOf K.2.2.1.2.1 K.2.2.1.2.2 p (nI j))) a i ∧ x.2 = nI i) (fun r => ∃ mc', r = some (SDK K p a, mc') ∧ FC mc mc' ∧ CI mc' K) 8 (by decide) ?_ ?_ (a, 0) ⟨rfl, rfl⟩
  · rintro m i ⟨x, y⟩ hi ⟨e1, e2⟩
    dsimp only at e1 e2
    left
    refine ⟨(hcI x (aSayOf K.2.2.1.2.1 K.2.2.1.2.2 p (nI i)), nI (i + 1)), ?_, by dsimp only; rw [e1]; exact (fldA_s (fun j a => hcI a (aSayOf K.2.2.1.2.1 K.2.2.1.2.2 p (nI j))) _ i).symm, rfl⟩
    show F9_withSaying_p6 _ _ _ _ _ y mc = _
    unfold F9_withSaying_p6
    rw [e2, if_neg (show ¬ (8 : Int32) ≤ nI i by rw [zl8 (by omega)]; omega), c_say I.1, aSay_in hp n8 hi, Option.bind_some, hcI_eq, nI_1]
  · rintro m ⟨x, y⟩ ⟨e1, e2⟩
    dsimp only at e1 e2
    obtain ⟨A1, r1, s1, t1⟩ := d9_hour I (show 0 < 40 by decide) hp x
    obtain ⟨A2, r2, s2, t2⟩ := d9_hour t1 (show 8 < 40 by decide) hp (HD K p 0 x)
    obtain ⟨A3, r3, s3, t3⟩ := d9_hour t2 (show 20 < 40 by decide) hp (HD K p 8 (HD K p 0 x))
    obtain ⟨A4, r4, s4, t4⟩ := d9_hour t3 (show 39 < 40 by decide) hp (HD K p 20 (HD K p 8 (HD K p 0 x)))
    obtain ⟨A5, r5, s5, t5⟩ := c_tell t4 (nI p) (nI 0) (nI 0)
    obtain ⟨A6, r6, s6, t6⟩ := c_tell t5 (nI p) (nI 0) (nI 1)
    obtain ⟨A7, r7, s7, t7⟩ := c_bucket t6 (nI p)
    obtain ⟨A8, r8, s8, t8⟩ := c_chance t7 (nI 5) (nI p) (nI 0) (nI 0)
    obtain ⟨A9, r9, s9, t9⟩ := c_chance t8 (nI 5) (nI p) (nI 0) (nI 1)
    rw [aTell_in hp n8 (by decide) (by decide)] at r5 r6
    rw [aBucket_in hp n8] at r7
    rw [aChance_in (by decide) hp n8 (by decide) (by decide)] at r8 r9
    refine ⟨A9, ?_, s1.trans (s2.trans (s3.trans (s4.trans (s5.trans (s6.trans (s7.trans (s8.trans s9))))))), t9⟩
    show F9_withSaying_p6 _ _ _ _ _ y mc = _
    unfold F9_withSaying_p6 F9_withSaying_b36
    rw [e2, if_pos (show (8 : Int32) ≤ nI 8 by decide), show (0 : Int32) = nI 0 from rfl, show (8 : Int32) = nI 8 from rfl, show (20 : Int32) = nI 20 from rfl, show (39 : Int32) = nI 39 from rfl, show (1 : Int32) = nI 1 from rfl, show (5 : Int32) = nI 5 from rfl, r1, Option.bind_some]
    dsimp only
    rw [r2, Option.bind_some]
    dsimp only
    rw [r3, Option.bind_some]
    dsimp only
    rw [r4, Option.bind_some]
    dsimp only
    rw [r5, Option.bind_some]
    dsimp only
    rw [r6, Option.bind_some]
    dsimp only
    rw [r7, Option.bind_some]
    dsimp only
    rw [r8, Option.bind_some]
    dsimp only
    rw [r9, Option.bind_some]
    dsimp only
    rw [hcI_eq, hcI_eq, hcI_eq, hcL_eq, hcL_eq, e1]
    unfold SDK SD
    exact rfl
theorem d9_end {mc : Mem} {K : KX} (I : CI mc K) (a : Int64) : ∃ mc', F9_digest_b113 a mc = some (EDK K a, mc') ∧ FC mc mc' ∧ CI mc' K := by
  obtain ⟨A1, r1, s1, t1, -⟩ := c_gone I
  obtain ⟨A2, r2, s2, t2⟩ := c_babel t1.ci 0
  obtain ⟨A3, r3, s3, t3⟩ := c_babel t2 1
  obtain ⟨A4, r4, s4, t4⟩ := c_iron t3 (nI 0)
  obtain ⟨A5, r5, s5, t5⟩ := c_iron t4 (nI 1)
  obtain ⟨A6, r6, s6, t6⟩ := c_never t5
  obtain ⟨A7, r7, s7, t7⟩ := c_day t6 7 (nI 6) (nI 0)
  obtain ⟨A8, r8, s8, t8⟩ := c_day t7 7 (nI 6) (nI 1)
  rw [if_pos (show (0 : Int32) ≤ 0 ∧ (0 : Int32) < 2 by decide)] at r2
  rw [if_pos (show (0 : Int32) ≤ 1 ∧ (1 : Int32) < 2 by decide)] at r3
  rw [aIron_in (by decide)] at r4 r5
  rw [aDay_in (by decide) (by decide)] at r7 r8
  refine ⟨A8, ?_, s1.trans (s2.trans (s3.trans (s4.trans (s5.trans (s6.trans (s7.trans s8)))))), t8⟩
  unfold F9_digest_b113
  rw [r1, Option.bind_some]
  dsimp only
  rw [r2, Option.bind_some]
  dsimp only
  rw [r3, Option.bind_some]
  dsimp only
  rw [show F9_iron 0 A3 = F9_iron (nI 0) A3 from rfl, r4, Option.bind_some]
  dsimp only
  rw [show F9_iron 1 A4 = F9_iron (nI 1) A4 from rfl, r5, Option.bind_some]
  dsimp only
  rw [r6, Option.bind_some]
  dsimp only
  rw [show F9_day 7 6 0 A6 = F9_day 7 (nI 6) (nI 0) A6 from rfl, r7, Option.bind_some]
  dsimp only
  rw [show F9_day 7 6 1 A7 = F9_day 7 (nI 6) (nI 1) A7 from rfl, r8, Option.bind_some]
  dsimp only
  rw [hcI_eq, hcI_eq, hcI_eq, hcI_eq, hcI_eq, hcI_eq, hcI_eq, hcI_eq]
  unfold EDK ED
  exact rfl
