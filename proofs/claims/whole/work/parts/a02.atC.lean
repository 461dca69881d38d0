/-! the class: at, saying, well -/
theorem lif_FL {W : KW} {H : KH} {S : KS} (l : 1 ≤ S.2.2.2 ∧ S.2.2.2 < 64) : ∀ h, (lifS W H S h).2.2.2.1 + (lifS W H S h).2.2.2.2 ≤ S.2.2.2 := by
  intro h
  induction h with
  | zero => show 0 + S.2.2.2 ≤ _; omega
  | succ h ih =>
    show (stepS W H S h (lifS W H S h)).1.2.2.2.1 + (stepS W H S h (lifS W H S h)).1.2.2.2.2 ≤ _
    have O := lifS_O (W := W) (H := H) l h
    generalize lifS W H S h = X at ih O ⊢
    have hloss : (lossS X).2.2.2.1 + (lossS X).2.2.2.2 ≤ S.2.2.2 := by show X.2.2.2.1 + 0 ≤ _; omega
    have hcome : ∀ i, 1 ≤ X.2.2.2.2 → (comeS W (S.2.2.1 == 1) h i X).1.2.2.2.1 + (comeS W (S.2.2.1 == 1) h i X).1.2.2.2.2 ≤ S.2.2.2 := by
      intro i hi
      have hf : comF (S.2.2.1 == 1) X + comL W.2.1 (S.2.2.1 == 1) i X ≤ S.2.2.2 := by unfold comF comL; split <;> split <;> omega
      rw [comeS_1]
      split
      · show comF (S.2.2.1 == 1) X + 0 ≤ _; omega
      · exact hf
    by_cases c : S.1 = h
    · rw [stepS_read c]
      split
      · exact ih
      · exact hloss
    · cases hX : X.1 with
      | none => rw [stepS_none c hX]; exact ih
      | some k =>
        have h1 := (O.1 k hX).2
        rw [stepS_nxt c hX]
        split
        · split <;> exact ih
        · split
          · exact hloss
          · exact hcome _ h1
theorem f5_letter {mc : Mem} {ns : Nat} {SS : Nat → KS} {LT : Nat → Nat → Nat} (C : CS mc ns SS LT) {p j : Nat} (hp : p < ns) (hj : j < 2 ^ 31) : F5_letter 11 (nI p) (nI j) mc = some (if j < (SS p).2.2.2 then nI (LT p j) else -1) := by
  obtain ⟨n8, hn, hs⟩ := C
  obtain ⟨⟨-, -, -, a4, a5⟩, ko⟩ := hs p hp
  have l5 := ko.2.2.2.2
  unfold F5_letter F5_letter_b37
  rw [hn, f9_b, if_pos (of_i hp (by omega)), ckI (show p < 8 by omega) (by decide), nI_clamp (show p < 2 ^ 31 by omega), show mc (11 + 4) p = nI (SS p).2.2.2 from a4, f9_b]
  by_cases c : j < (SS p).2.2.2
  · rw [if_pos (of_i c (by omega)), if_pos c, zr4, nI_add, ckI (show p * 4 + j < 32 by omega) (by decide), nI_clamp (show p * 4 + j < 2 ^ 31 by omega), show mc (11 + 5) (p * 4 + j) = nI (LT p j) from a5 j c]
  · rw [if_neg (fun z => c ((ltI (by omega) (by omega)).mp z.2)), if_neg c]
def aAtOf (W : KW) (H : KH) (SS : Nat → KS) (LT : Nat → Nat → Nat) (h p : Nat) (v : Int32) : Int32 :=
  if v = 0 then en (lifS W H (SS p) (h + 1)).1
  else if v = 1 then nI (lifS W H (SS p) (h + 1)).2.2.2.2
  else if v = 2 then (if (lifS W H (SS p) (h + 1)).2.2.2.2 = 0 then -1 else nI (LT p (lifS W H (SS p) (h + 1)).2.2.2.1))
  else if v = 3 then (if (lifS W H (SS p) (h + 1)).2.2.2.2 = 0 then -1 else nI (LT p ((lifS W H (SS p) (h + 1)).2.2.2.1 + (lifS W H (SS p) (h + 1)).2.2.2.2 - 1)))
  else b2i (hrdS W H (SS p) h)
def aAt (K : KX) (v1 v2 v3 : Int32) : Int32 := if 0 ≤ v1 ∧ v1 < 40 then (if 0 ≤ v2 ∧ v2 < nI K.2.2.1.1 then (if 0 ≤ v3 ∧ v3 < 5 then aAtOf K.1 (H0 K) K.2.2.1.2.1 K.2.2.1.2.2 v1.toNatClampNeg v2.toNatClampNeg v3 else -2) else -2) else -2
theorem c_at {mc : Mem} {K : KX} (I : CI mc K) (v1 v2 v3 : Int32) : ∃ mc', F9_at v1 v2 v3 mc = some (aAt K v1 v2 v3, mc') ∧ FC mc mc' ∧ CI mc' K := by
  have n8 := I.1.n8
  unfold F9_at aAt
  rw [I.1.2.2.1.2.1]
  simp only [f9_b]
  by_cases c1 : 0 ≤ v1 ∧ v1 < 40
  · by_cases c2 : 0 ≤ v2 ∧ v2 < nI K.2.2.1.1
    · by_cases c3 : 0 ≤ v3 ∧ v3 < 5
      · simp only [if_pos c1, if_pos c2, if_pos c3]
        obtain ⟨M, r1, r2, r3, -, -⟩ := f9_refresh I
        obtain ⟨h, hh, rfl⟩ := i_of (b := 40) (by decide) c1
        obtain ⟨p, hp, rfl⟩ := i_of (by omega) c2
        refine ⟨M, ?_, r2, r3.ci⟩
        obtain ⟨f1, f2, f3, f4⟩ := (r3.2.1.2 p hp).1 h hh
        have hc := r3.1.2.2.1
        have ko := (hc.2.2 p hp).2
        have fl := lif_FL (W := K.1) (H := H0 K) ko.l64 (h + 1)
        have l5 := ko.2.2.2.2
        rw [r1, Option.bind_some, ckI (show p < 8 by omega) (by decide), ckI hh (by decide), ckI hh (by decide), ckI hh (by decide), ckI hh (by decide), ckI hh (by decide), nI_clamp (show p < 2 ^ 31 by omega), nI_clamp (show h < 2 ^ 31 by omega), f1, f2, f3, f4]
        unfold aAtOf
        by_cases d0 : v3 = 0
        · rw [if_pos d0, if_pos d0]
        · by_cases d1 : v3 = 1
          · rw [if_neg d0, if_neg d0, if_pos d1, if_pos d1]
          · by_cases d2 : v3 = 2
            · rw [if_neg d0, if_neg d0, if_neg d1, if_neg d1, if_pos d2, if_pos d2, f5_letter hc hp (by omega), Option.bind_some]
              simp (disch := omega) only [ze0]
              by_cases z : (lifS K.1 (H0 K) (K.2.2.1.2.1 p) (h + 1)).2.2.2.2 = 0
              · rw [if_pos z, if_pos z]
              · rw [if_neg z, if_neg z, if_pos (by omega)]
            · by_cases d3 : v3 = 3
              · rw [if_neg d0, if_neg d0, if_neg d1, if_neg d1, if_neg d2, if_neg d2, if_pos d3, if_pos d3]
                simp (disch := omega) only [ze0]
                by_cases z : (lifS K.1 (H0 K) (K.2.2.1.2.1 p) (h + 1)).2.2.2.2 = 0
                · rw [if_pos z, if_pos z]
                · rw [if_neg z, if_neg z, nI_add, zs1 (by omega), f5_letter hc hp (by omega), Option.bind_some, if_pos (by omega)]
              · rw [if_neg d0, if_neg d0, if_neg d1, if_neg d1, if_neg d2, if_neg d2, if_neg d3, if_neg d3]
      · simp only [if_pos c1, if_pos c2, if_neg c3]
        exact ⟨mc, rfl, FC.refl mc, I⟩
    · simp only [if_pos c1, if_neg c2]
      exact ⟨mc, rfl, FC.refl mc, I⟩
  · simp only [if_neg c1]
    exact ⟨mc, rfl, FC.refl mc, I⟩
def aWellOf (W : KW) (k : Nat) (v : Int32) : Int32 := if v = 0 then nI (W.2.1 k) else if v = 1 then nI (W.2.2 k) else if v = 2 then en (dnS W.2.2 k W.1) else en (upS W.2.2 k W.1)
def aWell (K : KX) (v1 v2 : Int32) : Int32 := if 0 ≤ v1 ∧ v1 < nI K.1.1 then (if 0 ≤ v2 ∧ v2 < 4 then aWellOf K.1 v1.toNatClampNeg v2 else -2) else -2
theorem c_well {mc : Mem} {K : KX} (C : CB mc K) (v1 v2 : Int32) : F9_well v1 v2 mc = some (aWell K v1 v2) := by
  have h8 := C.w8
  unfold F9_well aWell
  rw [C.1.1.2.1]
  simp only [f9_b]
  by_cases c1 : 0 ≤ v1 ∧ v1 < nI K.1.1
  · by_cases c2 : 0 ≤ v2 ∧ v2 < 4
    · simp only [if_pos c1, if_pos c2]
      obtain ⟨k, hk, rfl⟩ := i_of (by omega) c1
      obtain ⟨w1, w2, -, -⟩ := C.1.1.2.2 k hk
      obtain ⟨w3, w4⟩ := C.1.2.2 k hk
      rw [ckI (show k < 8 by omega) (by decide), ckI (show k < 8 by omega) (by decide), ckI (show k < 8 by omega) (by decide), ckI (show k < 8 by omega) (by decide), nI_clamp (show k < 2 ^ 31 by omega), show mc 7 k = _ from w1, show mc 8 k = _ from w2, show mc 9 k = _ from w3, show mc 10 k = _ from w4]
      unfold aWellOf
      split
      · rfl
      · split
        · rfl
        · split <;> rfl
    · simp only [if_pos c1, if_neg c2]
  · simp only [if_neg c1]
def aSayOf (SS : Nat → KS) (LT : Nat → Nat → Nat) (p : Nat) (v : Int32) : Int32 := if v = 0 then nI (SS p).1 else if v = 1 then nI (SS p).2.1 else if v = 2 then nI (SS p).2.2.1 else if v = 3 then nI (SS p).2.2.2 else if v.toNatClampNeg - 4 < (SS p).2.2.2 then nI (LT p (v.toNatClampNeg - 4)) else -1
def aSay (K : KX) (v1 v2 : Int32) : Int32 := if 0 ≤ v1 ∧ v1 < nI K.2.2.1.1 then (if 0 ≤ v2 ∧ v2 < 8 then aSayOf K.2.2.1.2.1 K.2.2.1.2.2 v1.toNatClampNeg v2 else -2) else -2
theorem c_say {mc : Mem} {K : KX} (C : CB mc K) (v1 v2 : Int32) : F9_saying v1 v2 mc = some (aSay K v1 v2) := by
  have n8 := C.n8
  unfold F9_saying aSay
  rw [C.2.2.1.2.1]
  simp only [f9_b]
  by_cases c1 : 0 ≤ v1 ∧ v1 < nI K.2.2.1.1
  · by_cases c2 : 0 ≤ v2 ∧ v2 < 8
    · simp only [if_pos c1, if_pos c2]
      obtain ⟨p, hp, rfl⟩ := i_of (by omega) c1
      obtain ⟨j, hj, rfl⟩ := i_of (b := 8) (by decide) c2
      obtain ⟨⟨a1, a2, a3, a4, -⟩, ko⟩ := C.2.2.1.2.2 p hp
      rw [ckI (show p < 8 by omega) (by decide), ckI (show p < 8 by omega) (by decide), ckI (show p < 8 by omega) (by decide), ckI (show p < 8 by omega) (by decide), nI_clamp (show p < 2 ^ 31 by omega), a1, a2, a3, a4]
      unfold aSayOf
      rw [nI_clamp (show j < 2 ^ 31 by omega)]
      simp (disch := omega) only [ze0, ze1, ze2, ze3]
      by_cases d0 : j = 0
      · rw [if_pos d0, if_pos d0]
      · by_cases d1 : j = 1
        · rw [if_neg d0, if_neg d0, if_pos d1, if_pos d1]
        · by_cases d2 : j = 2
          · rw [if_neg d0, if_neg d0, if_neg d1, if_neg d1, if_pos d2, if_pos d2]
          · by_cases d3 : j = 3
            · rw [if_neg d0, if_neg d0, if_neg d1, if_neg d1, if_neg d2, if_neg d2, if_pos d3, if_pos d3]
            · rw [if_neg d0, if_neg d0, if_neg d1, if_neg d1, if_neg d2, if_neg d2, if_neg d3, if_neg d3, zs4 (by omega), f5_letter C.2.2.1 hp (by omega), Option.bind_some]
    · simp only [if_pos c1, if_neg c2]
  · simp only [if_neg c1]
