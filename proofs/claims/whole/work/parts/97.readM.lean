/-! the reference: what is read off the lives -/
def dI (i : Nat) : Int32 := if i ≤ 39 then nI (39 - i) else -1
theorem dI_s {i : Nat} (h : i < 40) : nI (39 - i) + (-1 : Int32) = dI (i + 1) := by
  unfold dI
  by_cases e : i = 39
  · subst e; decide
  · rw [if_pos (by omega), show 39 - i = (39 - (i + 1)) + 1 by omega, pk_m1]
theorem ix8 {h p : Nat} (hh : h < 40) (hp : p < 8) : (8 : Int32) * nI h + nI p = nI (8 * h + p) ∧ (nI (8 * h + p)).toNatClampNeg = 8 * h + p ∧ 8 * h + p < 320 := by
  refine ⟨?_, nI_clamp (by omega), by omega⟩
  rw [show (8 : Int32) = nI 8 from rfl, pk_mul]; exact nI_add _ _
theorem en_eqs {o : Option Nat} {n k : Nat} (ho : ∀ i, o = some i → i < n) (hn : n ≤ 8) (hk : k < 8) : (en o = nI k) = (o = some k) := propext (en_eq (b := some k) (fun i hi => by have := ho i hi; omega) (fun i hi => by cases hi; omega))
theorem lif_lt {W : KW} {H : KH} {S : KS} (l : KO S) {h i : Nat} (e : (lifS W H S h).1 = some i) : i < W.1 := ((lifS_O (W := W) (H := H) (S := S) ⟨l.2.2.2.1, by have := l.2.2.2.2; omega⟩ h).1 i e).1
theorem f10_heardAt {mm : Mem} {W : KW} {H : KH} {S : KS} {p k : Nat} (F : FL mm W H S p 40) (hp : p < 8) (l : KO S) (h8 : W.1 ≤ 8) (hk : k < 8) : F10_heardAt (nI p) (nI k) mm = some (en (fhS W H S k)) := by
  unfold F10_heardAt
  refine lpF (fun n (s : Int32 × Int32) => F10_heardAt_h6 (nI p) (nI k) mm n s.1 s.2) (fun i s => s = (en (fsD (hAt W H S k) 40 i), dI i)) (fun r => r = some (en (fhS W H S k))) 40 (by decide) ?_ ?_ (-1, 39) rfl
  · rintro n i s hi rfl
    left
    obtain ⟨x1, x2, x3⟩ := ix8 (show 39 - i < 40 by omega) hp
    obtain ⟨f1, f2, f3, f4⟩ := F (39 - i) (by omega)
    have hA : hAt W H S k (39 - i) = (hrdS W H S (39 - i) && ((lifS W H S (39 - i + 1)).1 == some k)) := rfl
    refine ⟨(en (fsD (hAt W H S k) 40 (i + 1)), dI (i + 1)), ?_, rfl⟩
    show F10_heardAt_p6 _ _ _ _ _ _ = _
    unfold F10_heardAt_p6 F10_heardAt_b48 F10_heardAt_b49
    rw [show dI i = nI (39 - i) from if_pos (by omega), if_neg (nI_pos (by omega)), x1, ckI x3 (by decide), ckI x3 (by decide), x2, f1, f4, dI_s hi]
    show _ = F10_heardAt_h6 _ _ _ _ (en (if hAt W H S k (40 - 1 - i) then some (40 - 1 - i) else fsD (hAt W H S k) 40 i)) _
    rw [show 40 - 1 - i = 39 - i by omega, hA]
    have := en_eqs (fun j hj => lif_lt l hj) h8 hk (o := (lifS W H S (39 - i + 1)).1)
    simp only [this]
    cases hrdS W H S (39 - i) with
    | false => rw [if_neg (show ¬ b2i false = 1 by decide), if_neg (by simp)]
    | true =>
      rw [if_pos (show b2i true = 1 from rfl)]
      by_cases c : (lifS W H S (39 - i + 1)).1 = some k
      · rw [if_pos c, if_pos (by simp [c])]; rfl
      · rw [if_neg c, if_neg (by simp [c])]
  · rintro n s rfl
    show F10_heardAt_p6 _ _ _ _ _ _ = _
    unfold F10_heardAt_p6
    rw [if_pos (show dI 40 < 0 by decide), fsD_eq]
    rfl
theorem fh_none {W : KW} {H : KH} {S : KS} {k : Nat} : fhS W H S k = none ↔ hrS W H S k = false := fsB_none
theorem fh_lt {W : KW} {H : KH} {S : KS} {k j : Nat} (h : fhS W H S k = some j) : j < 40 := (fsB_lt h).1
theorem fh_en {W : KW} {H : KH} {S : KS} {k : Nat} : (en (fhS W H S k) = -1) = (hrS W H S k = false) := by
  rw [← fh_none]
  exact propext (en_none (fun j hj => by have := fh_lt hj; omega))
/-- the lives of the sayings are told -/
def RLv (mm : Mem) (W : KW) (H : KH) (ns : Nat) (SS : Nat → KS) : Prop := W.1 ≤ 8 ∧ ns ≤ 8 ∧ mm 0 9 = nI ns ∧ (∀ p, p < ns → KO (SS p)) ∧ ML mm W H ns SS
theorem r_hears {mm : Mem} {W : KW} {H : KH} {ns : Nat} {SS : Nat → KS} {k : Nat} (R : RLv mm W H ns SS) (hk : k < 8) : F10_hearsOf (nI k) mm = some (nI (bitsN (fun p => hrS W H (SS p) k) ns)) := by
  obtain ⟨h8, n8, hn, l, L⟩ := R
  refine up_all (fun n a i => F10_hearsOf_h4 (nI k) mm n a i) (fun i => nI (bitsN (fun p => hrS W H (SS p) k) i)) ns _ (by omega) ?_ ?_
  · intro n
    show F10_hearsOf_p4 _ _ _ _ _ = _
    unfold F10_hearsOf_p4
    rw [hn, if_pos (nI_le (Nat.le_refl _) (by omega))]
  · intro n p hp
    show F10_hearsOf_p4 _ _ _ _ _ = _
    unfold F10_hearsOf_p4 F10_hearsOf_b30
    rw [hn, if_neg (nI_ge hp (by omega)), f10_heardAt (L p hp).2 (by omega) (l p hp) h8 hk, Option.bind_some, nI_1]
    simp only [fh_en]
    cases c : hrS W H (SS p) k with
    | false => rw [if_pos rfl, bits_or0 (fun p => hrS W H (SS p) k) c]
    | true => rw [if_neg (by decide), bits_step (fun p => hrS W H (SS p) k) (by omega) c]
theorem r_soon {mm : Mem} {W : KW} {H : KH} {ns : Nat} {SS : Nat → KS} {k : Nat} (R : RLv mm W H ns SS) (hk : k < 8) : F10_soonOf (nI k) mm = some (en (minF (fun p => fhS W H (SS p) k) ns)) := by
  obtain ⟨h8, n8, hn, l, L⟩ := R
  refine up_all (fun n a i => F10_soonOf_h4 (nI k) mm n a i) (fun i => en (minF (fun p => fhS W H (SS p) k) i)) ns _ (by omega) ?_ ?_
  · intro n
    show F10_soonOf_p4 _ _ _ _ _ = _
    unfold F10_soonOf_p4
    rw [hn, if_pos (nI_le (Nat.le_refl _) (by omega))]
  · intro n p hp
    show F10_soonOf_p4 _ _ _ _ _ = _
    unfold F10_soonOf_p4 F10_soonOf_b42 F10_soonOf_b37
    unfold F10_soonOf_b43
    rw [hn, if_neg (nI_ge hp (by omega)), f10_heardAt (L p hp).2 (by omega) (l p hp) h8 hk, Option.bind_some, nI_1, minF_s]
    cases c : fhS W H (SS p) k with
    | none => rw [if_pos (show en none = -1 from rfl)]
    | some h =>
      have hh := fh_lt c
      rw [if_neg (show ¬ en (some h) = -1 from nI_ne1 (by omega))]
      cases d : minF (fun p => fhS W H (SS p) k) p with
      | none => rw [if_pos (show en none = -1 from rfl)]
      | some b =>
        have hb := minF_lt (c := 40) (fun i j hj => fh_lt hj) d
        rw [if_neg (show ¬ en (some b) = -1 from nI_ne1 (by omega))]
        simp only [en, leI (show b < 2 ^ 31 by omega) (show h < 2 ^ 31 by omega)]
        by_cases e : b ≤ h
        · rw [if_pos e, if_neg (by omega)]
        · rw [if_neg e, if_pos (by omega)]
theorem r_gone {mm : Mem} {W : KW} {H : KH} {ns : Nat} {SS : Nat → KS} (R : RLv mm W H ns SS) : F10_goneNow mm = some (nI (bitsN (fun p => goneS W H (SS p)) ns)) := by
  obtain ⟨h8, n8, hn, l, L⟩ := R
  refine up_all (fun n a i => F10_goneNow_h4 mm n a i) (fun i => nI (bitsN (fun p => goneS W H (SS p)) i)) ns _ (by omega) ?_ ?_
  · intro n
    show F10_goneNow_p4 _ _ _ _ = _
    unfold F10_goneNow_p4
    rw [hn, if_pos (nI_le (Nat.le_refl _) (by omega))]
  · intro n p hp
    show F10_goneNow_p4 _ _ _ _ = _
    unfold F10_goneNow_p4 F10_goneNow_b29
    have e : mm 15 p = b2i (goneS W H (SS p)) := (L p hp).1.2.2.2.2.2
    rw [hn, if_neg (nI_ge hp (by omega)), ckI (show p < 8 by omega) (by decide), nI_clamp (show p < 2 ^ 31 by omega), e, nI_1]
    cases c : goneS W H (SS p) with
    | false => rw [if_pos (show b2i false = 0 from rfl), bits_or0 (fun p => goneS W H (SS p)) c]
    | true => rw [if_neg (show ¬ b2i true = 0 by decide), bits_step (fun p => goneS W H (SS p)) (by omega) c]
def twoS (W : KW) (H : KH) (ns : Nat) (SS : Nat → KS) (h k : Nat) : Bool := decide (1 < cntN (fun p => hAt W H (SS p) k h) ns)
def bbW (W : KW) (H : KH) (ns : Nat) (SS : Nat → KS) (h : Nat) : Option Nat := fsB (twoS W H ns SS h) W.1
def bbH (W : KW) (H : KH) (ns : Nat) (SS : Nat → KS) : Option Nat := fsB (fun h => (bbW W H ns SS h).isSome) 40
def aBabel (W : KW) (H : KH) (ns : Nat) (SS : Nat → KS) (v : Int32) : Int32 := match bbH W H ns SS with
  | none => -1
  | some h => if v = 0 then nI h else en (bbW W H ns SS h)
theorem r_babel {mm : Mem} {W : KW} {H : KH} {ns : Nat} {SS : Nat → KS} (R : RLv mm W H ns SS) (hw : mm 0 7 = nI W.1) (v : Int32) : F10_babelBy v mm = some (aBabel W H ns SS v) := by
  obtain ⟨h8, n8, hn, l, L⟩ := R
  have inn : ∀ (kx : Int32 → Int32 → Int32 → Option Int32) (h k : Nat), h < 40 → k < 8 → F10_babelBy_h24 kx v mm FU (nI h) (nI k) 0 0 = kx (nI h) (nI k) (nI (cntN (fun p => hAt W H (SS p) k h) ns)) := by
    intro kx h k hh hk
    refine up_all (fun n a i => F10_babelBy_h24 kx v mm n (nI h) (nI k) a i) (fun i => nI (cntN (fun p => hAt W H (SS p) k h) i)) ns _ (by omega) ?_ ?_
    · intro n
      show F10_babelBy_p24 _ _ _ _ _ _ _ _ = _
      unfold F10_babelBy_p24
      rw [hn, if_pos (nI_le (Nat.le_refl _) (by omega))]
    · intro n p hp
      obtain ⟨x1, x2, x3⟩ := ix8 hh (show p < 8 by omega)
      obtain ⟨f1, f2, f3, f4⟩ := (L p hp).2 h hh
      show F10_babelBy_p24 _ _ _ _ _ _ _ _ = _
      unfold F10_babelBy_p24 F10_babelBy_b71 F10_babelBy_b72
      rw [hn, if_neg (nI_ge hp (by omega)), x1, ckI x3 (by decide), ckI x3 (by decide), x2, f1, f4, nI_1 p]
      have := en_eqs (fun j hj => lif_lt (l p hp) hj) h8 hk (o := (lifS W H (SS p) (h + 1)).1)
      simp only [this]
      show _ = F10_babelBy_h24 kx v mm n (nI h) (nI k) (nI (cntN (fun p => hAt W H (SS p) k h) p + b2n (hAt W H (SS p) k h))) (nI (p + 1))
      unfold hAt
      cases hrdS W H (SS p) h with
      | false => rw [if_neg (show ¬ b2i false = 1 by decide), Bool.false_and, show (0 : Int32) = nI 0 from rfl, nI_add]; rfl
      | true =>
        rw [if_pos (show b2i true = 1 from rfl), Bool.true_and]
        by_cases c : (lifS W H (SS p) (h + 1)).1 = some k
        · rw [if_pos c, show (1 : Int32) = nI 1 from rfl, nI_add, c]; simp [b2n]
        · rw [if_neg c, show (0 : Int32) = nI 0 from rfl, nI_add, show ((lifS W H (SS p) (h + 1)).1 == some k) = false from by simpa using c]; rfl
  have mid : ∀ (kx87 : Int32 → Int32 → Option Int32) (kx103 : Int32 → Option Int32) (h : Nat), h < 40 → F10_babelBy_h10 kx87 kx103 v mm FU (nI h) 0 = match bbW W H ns SS h with | none => kx103 (nI h) | some k => kx87 (nI h) (nI k) := by
    intro kx87 kx103 h hh
    refine lpF (fun n (s : Int32) => F10_babelBy_h10 kx87 kx103 v mm n (nI h) s) (fun i s => s = nI i ∧ fsB (twoS W H ns SS h) i = none) (fun r => r = match bbW W H ns SS h with | none => kx103 (nI h) | some k => kx87 (nI h) (nI k)) W.1 (by omega) ?_ ?_ 0 ⟨rfl, rfl⟩
    · rintro n k s hk ⟨rfl, hf⟩
      have e : F10_babelBy_h10 kx87 kx103 v mm (n + 1) (nI h) (nI k) = if twoS W H ns SS h k then kx87 (nI h) (nI k) else F10_babelBy_h10 kx87 kx103 v mm n (nI h) (nI (k + 1)) := by
        show F10_babelBy_p10 _ _ _ _ _ _ _ = _
        unfold F10_babelBy_p10
        rw [hw, if_neg (nI_ge hk (by omega)), inn _ h k hh (by omega)]
        unfold F10_babelBy_b81 twoS
        have hc := cntN_le (fun p => hAt W H (SS p) k h) ns
        rw [nI_1]
        simp only [zg1 (show cntN (fun p => hAt W H (SS p) k h) ns < 2 ^ 31 by omega), decide_eq_true_eq]
        by_cases c : 1 < cntN (fun p => hAt W H (SS p) k h) ns
        · rw [if_neg (by omega), if_pos c]
        · rw [if_pos (by omega), if_neg c]
      by_cases c : twoS W H ns SS h k = true
      · right
        have : fsB (twoS W H ns SS h) (k + 1) = some k := by unfold fsB; rw [hf]; dsimp only; rw [if_pos c]
        unfold bbW
        rw [e, if_pos c, fsB_ge this (by omega)]
      · left
        exact ⟨nI (k + 1), by rw [e, if_neg c], rfl, by unfold fsB; rw [hf]; dsimp only; rw [if_neg c]⟩
    · rintro n s ⟨rfl, hf⟩
      unfold bbW
      rw [hf]
      show F10_babelBy_p10 _ _ _ _ _ _ _ = _
      unfold F10_babelBy_p10
      rw [hw, if_pos (nI_le (Nat.le_refl _) (by omega))]
  unfold F10_babelBy
  refine lpF (fun n (s : Int32) => F10_babelBy_h2 (F10_babelBy_b87 v mm) v mm n s) (fun i s => s = nI i ∧ fsB (fun h => (bbW W H ns SS h).isSome) i = none) (fun r => r = some (aBabel W H ns SS v)) 40 (by decide) ?_ ?_ 0 ⟨rfl, rfl⟩
  · rintro n h s hh ⟨rfl, hf⟩
    have e : F10_babelBy_h2 (F10_babelBy_b87 v mm) v mm (n + 1) (nI h) = match bbW W H ns SS h with | none => F10_babelBy_h2 (F10_babelBy_b87 v mm) v mm n (nI (h + 1)) | some k => F10_babelBy_b87 v mm (nI h) (nI k) := by
      show F10_babelBy_p2 _ _ _ _ _ = _
      unfold F10_babelBy_p2
      rw [if_neg (show ¬ (40 : Int32) ≤ nI h from nI_ge (b := 40) hh (by decide)), mid _ _ h hh]
      unfold F10_babelBy_b103
      rw [nI_1]
    cases c : bbW W H ns SS h with
    | none =>
      left
      rw [c] at e
      exact ⟨nI (h + 1), e, rfl, by unfold fsB; rw [hf]; dsimp only; rw [c]; rfl⟩
    | some k =>
      right
      rw [c] at e
      have : fsB (fun h => (bbW W H ns SS h).isSome) (h + 1) = some h := by unfold fsB; rw [hf]; dsimp only; rw [c]; rfl
      rw [e]
      unfold aBabel bbH
      rw [fsB_ge this (by omega)]
      dsimp only
      rw [c]
      unfold F10_babelBy_b87
      split <;> rfl
  · rintro n s ⟨rfl, hf⟩
    unfold aBabel bbH
    rw [hf]
    rfl
