/-! the reference: tell, toss -/
theorem tell_80 (kh : Int32 → Int32 → Int32 → Int32 → Mem → Option (Int32 × Mem)) (kx : Int32 → Int32 → Int32 → Mem → Option (Int32 × Mem)) (v1 v2 v3 a4 a5 a6 a7 a8 : Int32) (M : Mem) : F10_tellOf_b80 kh kx v1 v2 v3 a4 a5 a6 a7 a8 M = kh a4 a5 a6 (a7 + 1) M := by
  unfold F10_tellOf_b80 F10_tellOf_b81 F10_tellOf_b95 F10_tellOf_b109
  rw [if_pos rfl, if_pos rfl]
theorem tell_76 (kh : Int32 → Int32 → Int32 → Int32 → Mem → Option (Int32 × Mem)) (kx : Int32 → Int32 → Int32 → Mem → Option (Int32 × Mem)) (v1 v2 v3 a4 a5 a6 a7 a8 : Int32) (M : Mem) : F10_tellOf_b76 kh kx v1 v2 v3 a4 a5 a6 a7 a8 M = kh a4 a7 a8 (a7 + 1) M := by
  unfold F10_tellOf_b76 F10_tellOf_b81 F10_tellOf_b95 F10_tellOf_b109
  rw [if_neg (show ¬ (1 : Int32) = 0 by decide), if_neg (show ¬ (1 : Int32) = 0 by decide)]
/-- one int of the cell c aside, what FrB keeps is kept -/
def FrE (c i : Nat) (mm M : Mem) : Prop := (∀ k, (1 ≤ k ∧ k < 10) ∨ k = 20 → k ≠ c → M k = mm k) ∧ (∀ j, j ≠ i → M c j = mm c j) ∧ ∀ j, j ≠ 15 → j ≠ 29 → M 0 j = mm 0 j
theorem FrE.refl (c i : Nat) (mm : Mem) : FrE c i mm mm := ⟨fun _ _ _ => rfl, fun _ _ => rfl, fun _ _ _ => rfl⟩
theorem FrE.set {c i : Nat} {mm M : Mem} (f : FrE c i mm M) (hc : c ≠ 0) (v : Int32) : FrE c i mm (mset M c i v) := ⟨fun k h1 h2 => (mset_n h2).trans (f.1 k h1 h2), fun j hj => (mset_o hj).trans (f.2.1 j hj), fun j h1 h2 => by rw [mset_n (fun z => hc z.symm)]; exact f.2.2 j h1 h2⟩
theorem FrE.frA {c i : Nat} {mm M M' : Mem} (f : FrE c i mm M) (hc : c < 10) (g : FrA M M') : FrE c i mm M' := ⟨fun k h1 h2 => (g k (by omega)).trans (f.1 k h1 h2), fun j hj => by rw [g c (by omega)]; exact f.2.1 j hj, fun j h1 h2 => by rw [g 0 (by omega)]; exact f.2.2 j h1 h2⟩
theorem FrE.frB {c i : Nat} {mm M M' : Mem} (f : FrE c i mm M) (hc : 1 ≤ c ∧ c < 10) (g : FrB M M') : FrE c i mm M' := ⟨fun k h1 h2 => (g.1 k h1).trans (f.1 k h1 h2), fun j hj => by rw [g.1 c (by omega)]; exact f.2.1 j hj, fun j h1 h2 => (g.2 j h1 h2).trans (f.2.2 j h1 h2)⟩
theorem FrE.back {c i : Nat} {mm M : Mem} (f : FrE c i mm M) (hc : c ≠ 0) : FrB mm (mset M c i (mm c i)) := ⟨fun k hk => by
    by_cases e : k = c
    · subst e
      funext j
      by_cases d : j = i
      · subst d; rw [mset_s]
      · rw [mset_o d]; exact f.2.1 j d
    · rw [mset_n e]; exact f.1 k hk e, fun j h1 h2 => by rw [mset_n (fun z => hc z.symm)]; exact f.2.2 j h1 h2⟩
theorem FrE.self {c i : Nat} {mm M : Mem} {v w : Int32} (f : FrE c i mm M) (h : M c i = v) : FrE c i (mset mm c i w) (mset M c i w) := ⟨fun k h1 h2 => by rw [mset_n h2, mset_n h2]; exact f.1 k h1 h2, fun j hj => by rw [mset_o hj, mset_o hj]; exact f.2.1 j hj, fun j h1 h2 => by
    by_cases e : (0 : Nat) = c
    · subst e
      by_cases d : j = i
      · subst d; rw [mset_s, mset_s]
      · rw [mset_o d, mset_o d]; exact f.2.1 j d
    · rw [mset_n e, mset_n e]; exact f.2.2 j h1 h2⟩
theorem r_tellOf {mm : Mem} {K : KX} (R : RB mm K) {p k : Nat} (hp : p < K.2.2.1.1) (hk : k < 8) (v : Int32) : ∃ mm', F10_tellOf (nI p) (nI k) v mm = some (aTellOf K p k v, mm') ∧ FrB mm mm' := by
  have h8 := R.w8
  have n8 := R.n8
  obtain ⟨m1, m2, m3⟩ := R.2.2.2.1
  have sp := m1.2.2 p hp
  obtain ⟨⟨s1, s2, s3, s4⟩, l1, l2, l3, l4, l5⟩ := sp
  have ko := m2 p hp
  have glt : ∀ i j, tellG K p k i = some j → j < 40 := fun i j h => fh_lt h
  unfold F10_tellOf
  rw [zm8, nI_1, ckI (show 8 * p + 1 < 64 by omega) (by decide), nI_clamp (show 8 * p + 1 < 2 ^ 31 by omega)]
  refine lpF (fun n (s : Int32 × Int32 × Int32 × Mem) => F10_tellOf_h22 (F10_tellOf_b117 (nI p) (nI k) v) (nI p) (nI k) v n (mm 8 (8 * p + 1)) s.1 s.2.1 s.2.2.1 s.2.2.2) (fun w s => s.1 = en (argF (tellG K p k) w) ∧ s.2.1 = en (minF (tellG K p k) w) ∧ s.2.2.1 = nI w ∧ FrE 8 (8 * p + 1) mm s.2.2.2) (fun r => ∃ mm', r = some (aTellOf K p k v, mm') ∧ FrB mm mm') K.1.1 (by omega) ?_ ?_ (-1, -1, 0, mm) ⟨rfl, rfl, rfl, FrE.refl _ _ _⟩
  · rintro n w ⟨x, y, z, M⟩ hw ⟨e1, e2, e3, f⟩
    dsimp only at e1 e2 e3 f
    subst e1 e2 e3
    left
    have f9 := f.set (by decide) (nI w)
    have hM : ∀ j, M 0 j = mm 0 j ∨ j = 15 ∨ j = 29 := fun j => by
      by_cases a : j = 15
      · exact Or.inr (Or.inl a)
      · by_cases b : j = 29
        · exact Or.inr (Or.inr b)
        · exact Or.inl (f.2.2 j a b)
    have R9W : MW (mset M 8 (8 * p + 1) (nI w)) K.1.1 K.1.2.1 K.1.2.2 := R.1.congr (f9.2.2 7 (by decide) (by decide)) (f9.1 7 (by omega) (by decide))
    have R9E : ME (mset M 8 (8 * p + 1) (nI w)) K.2.1.1 K.2.1.2 (fun _ => true) := R.2.1.congr (f9.2.2 11 (by decide) (by decide)) (f9.2.2 13 (by decide) (by decide)) (f9.1 9 (by omega) (by decide))
    have R9H : MH (mset M 8 (8 * p + 1) (nI w)) (H0 K) := mh_of R9E ((f9.2.2 14 (by decide) (by decide)).trans R.2.2.1.2)
    have R9S : SP (mset M 8 (8 * p + 1) (nI w)) p (overS (K.2.2.1.2.1 p) w) := by
      refine ⟨⟨?_, ?_, ?_, ?_⟩, l1, show w < 8 by omega, l3, l4, l5⟩
      · rw [f9.2.1 _ (by omega)]; exact s1
      · rw [mset_s]; rfl
      · rw [f9.2.1 _ (by omega)]; exact s3
      · rw [f9.2.1 _ (by omega)]; exact s4
    obtain ⟨M2, q1, q2, q3, q4⟩ := f10_livesOne (show p < 8 by omega) R9W R9H R9S
    have fin := f10_heardAt q4 (show p < 8 by omega) (ko.over (show w < 8 by omega)) h8 hk
    refine ⟨(en (argF (tellG K p k) (w + 1)), en (minF (tellG K p k) (w + 1)), nI (w + 1), M2), ?_, rfl, rfl, rfl, f9.frA (by decide) (FrA.ofL q2)⟩
    show F10_tellOf_p22 _ _ _ _ _ (mm 8 (8 * p + 1)) (en (argF (tellG K p k) w)) (en (minF (tellG K p k) w)) (nI w) M = _
    unfold F10_tellOf_p22
    simp only [lt]
    rw [show M 0 7 = nI K.1.1 from (f.2.2 7 (by decide) (by decide)).trans R.1.2.1, if_neg (nI_ge hw (by omega)), zm8, nI_1, ckI (show 8 * p + 1 < 64 by omega) (by decide), nI_clamp (show 8 * p + 1 < 2 ^ 31 by omega), q1, Option.bind_some, fin, Option.bind_some, show fhS K.1 (H0 K) (overS (K.2.2.1.2.1 p) w) k = tellG K p k w from rfl, argF_s, minF_s]
    simp only [tell_80, tell_76]
    rw [nI_1 w]
    cases c : tellG K p k w with
    | none => rw [if_pos (show en none = -1 from rfl)]
    | some h =>
      have hh := glt _ _ c
      rw [if_neg (show ¬ en (some h) = -1 from nI_ne1 (by omega))]
      cases d : minF (tellG K p k) w with
      | none => rw [if_pos (show en none = -1 from rfl)]; rfl
      | some b =>
        have hb := minF_lt (c := 40) glt d
        rw [if_neg (show ¬ en (some b) = -1 from nI_ne1 (by omega))]
        simp only [en, leI (show b < 2 ^ 31 by omega) (show h < 2 ^ 31 by omega)]
        by_cases e : b ≤ h
        · rw [if_pos e, if_neg (by omega), if_neg (by omega)]
        · rw [if_neg e, if_pos (by omega), if_pos (by omega)]
  · rintro n ⟨x, y, z, M⟩ ⟨e1, e2, e3, f⟩
    dsimp only at e1 e2 e3 f
    subst e1 e2 e3
    refine ⟨mset M 8 (8 * p + 1) (mm 8 (8 * p + 1)), ?_, f.back (by decide)⟩
    show F10_tellOf_p22 _ _ _ _ _ (mm 8 (8 * p + 1)) (en (argF (tellG K p k) K.1.1)) (en (minF (tellG K p k) K.1.1)) (nI K.1.1) M = _
    unfold F10_tellOf_p22 F10_tellOf_b117 aTellOf
    rw [show M 0 7 = nI K.1.1 from (f.2.2 7 (by decide) (by decide)).trans R.1.2.1, if_pos (nI_le (Nat.le_refl _) (by omega)), zm8, nI_1, ckI (show 8 * p + 1 < 64 by omega) (by decide), nI_clamp (show 8 * p + 1 < 2 ^ 31 by omega)]
    split <;> rfl
def mostV (K : KX) (t : Nat) : Option Nat → Int32
  | none => -1
  | some b => nI (tossN K t b)
/-- only the coin more of the reference and its lives -/
def FrT (mm M : Mem) : Prop := (∀ k, (1 ≤ k ∧ k < 10) ∨ k = 20 → M k = mm k) ∧ ∀ j, j ≠ 14 → j ≠ 15 → j ≠ 29 → M 0 j = mm 0 j
theorem r_tossOf {mm : Mem} {K : KX} (R : RB mm K) {t : Nat} (ht : t < 8) (v : Int32) : ∃ mm', F10_tossOf (nI t) v mm = some (aToss K t v, mm') ∧ FrB mm mm' := by
  have h8 := R.w8
  have n8 := R.n8
  have tl : ∀ b, tossN K t b ≤ 8 := fun b => tossN_le n8 t b
  unfold F10_tossOf
  refine lpF (fun n (s : Int32 × Int32 × Int32 × Mem) => F10_tossOf_h8 (F10_tossOf_b85 (nI t) v) (nI t) v n s.1 s.2.1 s.2.2.1 s.2.2.2) (fun c s => s.1 = en (maxA (tossN K t) c) ∧ s.2.1 = mostV K t (maxA (tossN K t) c) ∧ s.2.2.1 = nI c ∧ FrT mm s.2.2.2) (fun r => ∃ mm', r = some (aToss K t v, mm') ∧ FrB mm mm') (40 * K.1.1) (by omega) ?_ ?_ (-1, -1, 0, mm) ⟨rfl, rfl, rfl, fun _ _ => rfl, fun _ _ _ _ => rfl⟩
  · rintro n c ⟨x, y, z, M⟩ hc ⟨e1, e2, e3, f⟩
    dsimp only at e1 e2 e3 f
    subst e1 e2 e3
    left
    have hw : 0 < K.1.1 := by omega
    have l1 : c / K.1.1 < 40 := Nat.div_lt_of_lt_mul (by rw [Nat.mul_comm]; exact hc)
    have l2 : c % K.1.1 < K.1.1 := Nat.mod_lt _ hw
    have m7 : M 0 7 = nI K.1.1 := (f.2 7 (by decide) (by decide) (by decide)).trans R.1.2.1
    have g0 : ∀ j, j ≠ 14 → j ≠ 15 → j ≠ 29 → (mset (mset M 0 14 (nI (c / K.1.1))) 0 15 (nI (c % K.1.1))) 0 j = mm 0 j := fun j a b d => by rw [mset_o b, mset_o a]; exact f.2 j a b d
    have gk : ∀ k, (1 ≤ k ∧ k < 10) ∨ k = 20 → (mset (mset M 0 14 (nI (c / K.1.1))) 0 15 (nI (c % K.1.1))) k = mm k := fun k hk => by rw [mset_n (by omega), mset_n (by omega)]; exact f.1 k hk
    have RV1 : RV (mset (mset M 0 14 (nI (c / K.1.1))) 0 15 (nI (c % K.1.1))) K.1 (coinH (H0 K) (c / K.1.1) (c % K.1.1)) K.2.2.1.1 K.2.2.1.2.1 := by
      refine ⟨R.1.congr (g0 7 (by decide) (by decide) (by decide)) (gk 7 (by omega)), mh_coinM (R.2.1.congr (g0 11 (by decide) (by decide) (by decide)) (g0 13 (by decide) (by decide) (by decide)) (gk 9 (by omega))) (by rw [mset_o (by decide), mset_s]) (mset_s _ _ _ _) l1 (by omega), ⟨R.2.2.2.1.1.1, (g0 9 (by decide) (by decide) (by decide)).trans R.2.2.2.1.1.2.1, fun p hp => (R.2.2.2.1.1.2.2 p hp).congr (gk 8 (by omega))⟩, R.2.2.2.1.2.1⟩
    obtain ⟨M2, q1, q2, q3, q4⟩ := RV1.lives
    have hear := r_hears q4 ht
    have hN : cntN (fun p => hrS K.1 (coinH (H0 K) (c / K.1.1) (c % K.1.1)) (K.2.2.1.2.1 p) t) K.2.2.1.1 = tossN K t c := rfl
    refine ⟨(en (maxA (tossN K t) (c + 1)), mostV K t (maxA (tossN K t) (c + 1)), nI (c + 1), M2), ?_, rfl, rfl, rfl, fun k hk => (q2 k (by omega)).trans (gk k hk), fun j a b d => by dsimp only; rw [q2 0 (by omega)]; exact g0 j a b d⟩
    show F10_tossOf_p8 _ _ _ _ (en (maxA (tossN K t) c)) (mostV K t (maxA (tossN K t) c)) (nI c) M = _
    unfold F10_tossOf_p8
    simp only [lt]
    rw [m7, zm40, if_neg (nI_ge hc (by omega))]
    unfold nz
    have hnz : ¬ nI K.1.1 = 0 := nI_ne0 hw (by omega)
    rw [if_neg hnz, pk_div (show c < 2 ^ 31 by omega) hw (by omega)]
    have e7 : (mset M 0 14 (nI (c / K.1.1))) 0 7 = nI K.1.1 := by rw [mset_o (by decide)]; exact m7
    rw [e7, if_neg hnz, jrI (show c < 2 ^ 31 by omega) hw (by omega), q1, Option.bind_some, hear, Option.bind_some, bits_ones _ n8, Option.bind_some, hN]
    unfold F10_tossOf_b69 F10_greater
    rw [nI_1, maxA_s]
    have hc8 := tl c
    have hcc : 40 * K.1.1 ≤ 320 := by omega
    cases hm : maxA (tossN K t) c with
    | none =>
      have hneg : ¬ nI (tossN K t c) ≤ (-1 : Int32) := by
        rw [Int32.le_iff_toInt_le, nI_toInt (by omega), show (-1 : Int32).toInt = -1 from by decide]; omega
      show (if nI (tossN K t c) ≤ (-1 : Int32) then _ else _) = _
      rw [if_neg hneg]
      show (if nI (tossN K t c) ≤ (-1 : Int32) then some (-1 : Int32) else some (nI (tossN K t c))).bind _ = _
      rw [if_neg hneg]
      rfl
    | some b =>
      have hb := tl b
      have hbl := maxA_lt hm
      show (if nI (tossN K t c) ≤ nI (tossN K t b) then _ else _) = _
      dsimp only [mostV]
      have hle := leI (show tossN K t c < 2 ^ 31 by omega) (show tossN K t b < 2 ^ 31 by omega)
      simp only [hle]
      by_cases z : tossN K t c ≤ tossN K t b
      · rw [if_pos z, if_pos z, if_neg (by omega)]
        rfl
      · rw [if_neg z, if_neg z, if_pos (by omega)]
        rfl
  · rintro n ⟨x, y, z, M⟩ ⟨e1, e2, e3, f⟩
    dsimp only at e1 e2 e3 f
    have m7 : M 0 7 = nI K.1.1 := (f.2 7 (by decide) (by decide) (by decide)).trans R.1.2.1
    refine ⟨mset M 0 14 (-1), ?_, fun k hk => by rw [mset_n (by omega)]; exact f.1 k hk, fun j h1 h2 => ?_⟩
    · show F10_tossOf_p8 _ _ _ _ x y z M = _
      unfold F10_tossOf_p8 F10_tossOf_b85 aToss
      simp only [lt]
      rw [e1, e2, e3, m7, zm40, if_pos (nI_le (Nat.le_refl _) (by omega))]
      have e7 : (mset M 0 14 (-1)) 0 7 = nI K.1.1 := by rw [mset_o (by decide)]; exact m7
      rw [e7]
      cases hm : maxA (tossN K t) (40 * K.1.1) with
      | none => rw [if_pos (show en none = -1 from rfl)]
      | some b =>
        have hb := maxA_lt hm
        have hw : 0 < K.1.1 := by omega
        have hnz : ¬ nI K.1.1 = 0 := nI_ne0 hw (by omega)
        rw [if_neg (show ¬ en (some b) = -1 from nI_ne1 (by omega))]
        unfold nz
        rw [if_neg hnz, if_neg hnz]
        simp only [en, mostV]
        rw [pk_div (show b < 2 ^ 31 by omega) hw (by omega), jrI (show b < 2 ^ 31 by omega) hw (by omega)]
        split
        · rfl
        · split <;> rfl
    · by_cases e : j = 14
      · subst e; rw [mset_s, R.2.2.1.2]
      · rw [mset_o e]; exact f.2 j e h1 h2
