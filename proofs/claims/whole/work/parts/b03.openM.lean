/-! the reference: iron, open -/
theorem RLv.ag {mm mm' : Mem} {W : KW} {H : KH} {ns : Nat} {SS : Nat → KS} (R : RLv mm W H ns SS) (h0 : mm' 0 9 = mm 0 9) (h : ∀ k, 10 ≤ k → k < 20 → mm' k = mm k) : RLv mm' W H ns SS := by
  unfold RLv ML SX FL at *
  rw [h0, h 10 (by omega) (by omega), h 11 (by omega) (by omega), h 12 (by omega) (by omega), h 13 (by omega) (by omega), h 14 (by omega) (by omega), h 15 (by omega) (by omega), h 16 (by omega) (by omega), h 17 (by omega) (by omega), h 18 (by omega) (by omega), h 19 (by omega) (by omega)]
  exact R
/-- one int of the object aside -/
def FrZ (z : Nat) (mm M : Mem) : Prop := (∀ k, (1 ≤ k ∧ k < 10) ∨ k = 20 → M k = mm k) ∧ ∀ j, j ≠ z → j ≠ 15 → j ≠ 29 → M 0 j = mm 0 j
theorem FrZ.refl (z : Nat) (mm : Mem) : FrZ z mm mm := ⟨fun _ _ => rfl, fun _ _ _ _ => rfl⟩
theorem FrZ.set {z : Nat} {mm M : Mem} (f : FrZ z mm M) (v : Int32) : FrZ z mm (mset M 0 z v) := ⟨fun k hk => by rw [mset_n (by omega)]; exact f.1 k hk, fun j a b c => by rw [mset_o a]; exact f.2 j a b c⟩
theorem FrZ.frA {z : Nat} {mm M M' : Mem} (f : FrZ z mm M) (g : FrA M M') : FrZ z mm M' := ⟨fun k hk => (g k (by omega)).trans (f.1 k hk), fun j a b c => by rw [g 0 (by omega)]; exact f.2 j a b c⟩
theorem FrZ.of {z : Nat} {mm M : Mem} (f : FrB mm M) : FrZ z mm M := ⟨f.1, fun j _ b c => f.2 j b c⟩
theorem FrZ.back {z : Nat} {mm M : Mem} (f : FrZ z mm M) {v : Int32} (h : mm 0 z = v) : FrB mm (mset M 0 z v) := ⟨fun k hk => by rw [mset_n (by omega)]; exact f.1 k hk, fun j b c => by
    by_cases e : j = z
    · subst e; rw [mset_s, h]
    · rw [mset_o e]; exact f.2 j e b c⟩
def fewV : Option Nat → Int32
  | none => 99
  | some b => nI b
theorem r_ironOf {mm : Mem} {K : KX} (R : RB mm K) (v : Int32) : ∃ mm', F10_ironBy v mm = some (aIronOf K v, mm') ∧ FrB mm mm' := by
  have n8 := R.n8
  have gle : ∀ p, ironN K p ≤ 8 := fun p => Nat.le_trans (cntN_le _ _) n8
  have glt : ∀ i j, (fun p => some (ironN K p)) i = some j → j < 9 := fun i j h => by have e : ironN K i = j := Option.some.inj h; have := gle i; omega
  unfold F10_ironBy
  refine lpF (fun n (s : Int32 × Int32 × Int32 × Mem) => F10_ironBy_h8 (F10_ironBy_b97 v) v n s.1 s.2.1 s.2.2.1 s.2.2.2) (fun p s => s.1 = en (argF (fun p => some (ironN K p)) p) ∧ s.2.1 = fewV (minF (fun p => some (ironN K p)) p) ∧ s.2.2.1 = nI p ∧ FrB mm s.2.2.2) (fun r => ∃ mm', r = some (aIronOf K v, mm') ∧ FrB mm mm') K.2.2.1.1 (by omega) ?_ ?_ (-1, 99, 0, mm) ⟨rfl, rfl, rfl, FrB.refl _⟩
  · rintro n p ⟨x, y, z, M⟩ hp ⟨e1, e2, e3, f⟩
    dsimp only at e1 e2 e3 f
    subst e1 e2 e3
    left
    have R1 := R.fr f
    obtain ⟨⟨s1, s2, s3, s4⟩, l1, l2, l3, l4, l5⟩ := R1.2.2.2.1.1.2.2 p hp
    have fE : FrE 8 (8 * p + 2) M (mset M 8 (8 * p + 2) 0) := (FrE.refl _ _ _).set (by decide) 0
    have V : RV (mset M 8 (8 * p + 2) 0) K.1 (H0 K) K.2.2.1.1 (ironS K.2.2.1.2.1 p) := by
      refine ⟨R1.1.congr (fE.2.2 7 (by decide) (by decide)) (fE.1 7 (by omega) (by decide)), mh_of (R1.2.1.congr (fE.2.2 11 (by decide) (by decide)) (fE.2.2 13 (by decide) (by decide)) (fE.1 9 (by omega) (by decide))) ((fE.2.2 14 (by decide) (by decide)).trans R1.2.2.1.2), ⟨n8, (fE.2.2 9 (by decide) (by decide)).trans R1.2.2.2.1.1.2.1, fun q hq => ?_⟩, fun q hq => ?_⟩
      · obtain ⟨⟨t1, t2, t3, t4⟩, m1, m2, m3, m4, m5⟩ := R1.2.2.2.1.1.2.2 q hq
        unfold ironS
        by_cases e : q = p
        · subst e
          rw [if_pos rfl]
          refine ⟨⟨?_, ?_, ?_, ?_⟩, m1, m2, show 0 < 2 by decide, m4, m5⟩
          · rw [mset_o (by omega)]; exact t1
          · rw [mset_o (by omega)]; exact t2
          · rw [mset_s]; rfl
          · rw [mset_o (by omega)]; exact t4
        · rw [if_neg e]
          refine ⟨⟨?_, ?_, ?_, ?_⟩, m1, m2, m3, m4, m5⟩
          · rw [mset_o (by omega)]; exact t1
          · rw [mset_o (by omega)]; exact t2
          · rw [mset_o (by omega)]; exact t3
          · rw [mset_o (by omega)]; exact t4
      · have ko := R1.2.2.2.1.2.1 q hq
        unfold ironS
        split
        · exact ko.buck (by decide)
        · exact ko
    obtain ⟨M2, q1, q2, q3, q4⟩ := V.lives
    have hg := r_gone q4
    have back : FrB M (mset M2 8 (8 * p + 2) (M 8 (8 * p + 2))) := (fE.frA (by decide) q2).back (by decide)
    have hN : cntN (fun q => goneS K.1 (H0 K) (ironS K.2.2.1.2.1 p q)) K.2.2.1.1 = ironN K p := rfl
    refine ⟨(en (argF (fun p => some (ironN K p)) (p + 1)), fewV (minF (fun p => some (ironN K p)) (p + 1)), nI (p + 1), mset M2 8 (8 * p + 2) (M 8 (8 * p + 2))), ?_, rfl, rfl, rfl, f.trans back⟩
    show F10_ironBy_p8 _ _ v (en (argF (fun p => some (ironN K p)) p)) (fewV (minF (fun p => some (ironN K p)) p)) (nI p) M = _
    unfold F10_ironBy_p8
    simp only [lt]
    rw [R1.2.2.2.1.1.2.1, if_neg (nI_ge hp (by omega)), zm8, za2, ckI (show 8 * p + 2 < 64 by omega) (by decide), ckI (show 8 * p + 2 < 64 by omega) (by decide), nI_clamp (show 8 * p + 2 < 2 ^ 31 by omega), q1, Option.bind_some, hg, Option.bind_some, bits_ones _ n8, Option.bind_some, hN]
    unfold F10_ironBy_b69 F10_lesser
    simp only [zm8, za2, ckI (show 8 * p + 2 < 64 by omega) (show 64 < 2 ^ 31 by decide), nI_clamp (show 8 * p + 2 < 2 ^ 31 by omega), nI_1]
    rw [argF_s, minF_s]
    dsimp only
    have hgp := gle p
    cases d : minF (fun p => some (ironN K p)) p with
    | none =>
      have h99 : ¬ fewV none ≤ nI (ironN K p) := nI_ge (b := 99) (by omega) (by decide)
      rw [if_neg h99, if_neg h99, Option.bind_some]
      rfl
    | some b =>
      have hb := minF_lt (c := 9) glt d
      have hle := leI (show b < 2 ^ 31 by omega) (show ironN K p < 2 ^ 31 by omega)
      dsimp only [fewV]
      simp only [hle]
      by_cases e : b ≤ ironN K p
      · rw [if_pos e, if_pos e, Option.bind_some, if_neg (by omega), if_neg (by omega)]
      · rw [if_neg e, if_neg e, Option.bind_some, if_pos (by omega), if_pos (by omega)]
        rfl
  · rintro n ⟨x, y, z, M⟩ ⟨e1, e2, e3, f⟩
    dsimp only at e1 e2 e3 f
    refine ⟨M, ?_, f⟩
    show F10_ironBy_p8 _ _ v x y z M = _
    unfold F10_ironBy_p8 F10_ironBy_b97 F10_ironBy_b106 aIronOf
    rw [e1, e2, e3, (R.fr f).2.2.2.1.1.2.1, if_pos (nI_le (Nat.le_refl _) (by omega))]
    have same : ∀ n, (argF (fun p => some (ironN K p)) n = none) = (minF (fun p => some (ironN K p)) n = none) := by
      intro n
      cases n with
      | zero => exact propext ⟨fun _ => rfl, fun _ => rfl⟩
      | succ n =>
        rw [argF_s, minF_s]
        dsimp only
        cases hm : minF (fun p => some (ironN K p)) n with
        | none => dsimp only; exact propext ⟨fun z => (by cases z), fun z => (by cases z)⟩
        | some b =>
          have ha : ¬ argF (fun p => some (ironN K p)) n = none := by
            have : ∀ n b, minF (fun p => some (ironN K p)) n = some b → ¬ argF (fun p => some (ironN K p)) n = none := by
              intro n
              induction n with
              | zero => intro b h; cases h
              | succ n ih =>
                intro b h
                rw [argF_s]
                rw [minF_s] at h
                dsimp only at h ⊢
                cases hm : minF (fun p => some (ironN K p)) n with
                | none => dsimp only; exact fun z => by cases z
                | some c =>
                  dsimp only
                  split
                  · exact fun z => by cases z
                  · exact ih c hm
            exact this n b hm
          dsimp only
          split
          · exact propext ⟨fun z => (by cases z), fun z => (by cases z)⟩
          · exact propext ⟨fun z => absurd z ha, fun z => (by cases z)⟩
    cases hm : argF (fun p => some (ironN K p)) K.2.2.1.1 with
    | none =>
      rw [if_pos (show en none = -1 from rfl), (same K.2.2.1.1).mp hm]
      split <;> rfl
    | some b =>
      have hb := argF_lt hm
      rw [if_neg (show ¬ en (some b) = -1 from nI_ne1 (by omega))]
      cases hq : minF (fun p => some (ironN K p)) K.2.2.1.1 with
      | none => rw [(same K.2.2.1.1).mpr hq] at hm; cases hm
      | some c =>
        split <;> rfl
theorem bits_full (p : Nat → Bool) (n : Nat) : bitsN p n = 2 ^ n - 1 ↔ allB p n = true := by
  induction n with
  | zero => exact ⟨fun _ => rfl, fun _ => rfl⟩
  | succ n ih =>
    have hl := bitsN_lt p n
    have h0 := Nat.two_pow_pos n
    rw [allB_s, Bool.and_eq_true, ← ih]
    show bitsN p n + (if p n = true then 2 ^ n else 0) = 2 ^ (n + 1) - 1 ↔ _
    rw [Nat.pow_succ]
    cases hp : p n with
    | true => rw [if_pos rfl]; constructor
              · intro h; exact ⟨by omega, rfl⟩
              · intro h; have := h.1; omega
    | false => rw [if_neg (by decide)]; constructor
               · intro h; omega
               · intro h; exact absurd h.2 (by decide)
theorem shl_n {n : Nat} (hn : n ≤ 8) : (1 : Int32) <<< (nI n &&& (31 : Int32)) = nI (2 ^ n) := by
  have h2 : 2 ^ n ≤ 2 ^ 8 := Nat.pow_le_pow_right (by decide) hn
  have := pk_shlN (n := 1) (nI n &&& (31 : Int32)) n (sh_l _ (by omega)) (by omega)
  rw [Nat.one_mul] at this
  exact this
theorem bits_fullI (p : Nat → Bool) {n : Nat} (hn : n ≤ 8) : (nI (bitsN p n) = ((1 : Int32) <<< (nI n &&& (31 : Int32))) - 1) = (allB p n = true) := by
  have h2 : 2 ^ n ≤ 2 ^ 8 := Nat.pow_le_pow_right (by decide) hn
  have h0 := Nat.two_pow_pos n
  have hb := bits_256 p hn
  rw [shl_n hn, show nI (2 ^ n) - (1 : Int32) = nI (2 ^ n - 1) from nI_sub (b := 1) h0, eqI (by omega) (by omega)]
  exact propext (bits_full p n)
theorem r_isOpen {mm : Mem} {K : KX} {t N : Nat} {on : Nat → Bool} (R : RB mm K) (ht : t < 8) (hN : N < 2 ^ 31) (hon : ∀ i, i < K.2.1.2 → on i = !(N.testBit i)) : ∃ mm', F10_isOpen (nI t) (nI N) mm = some (b2i (openB K t on), mm') ∧ FrB mm mm' := by
  have n8 := R.n8
  have f0 : FrZ 13 mm (mset mm 0 13 (nI N)) := (FrZ.refl _ _).set _
  have V : RV (mset mm 0 13 (nI N)) K.1 (HK K.2.1.1 K.2.1.2 on) K.2.2.1.1 K.2.2.1.2.1 := ⟨R.1.congr (f0.2 7 (by decide) (by decide) (by decide)) (f0.1 7 (by omega)), mh_of (me_not R.2.1 hN hon) ((f0.2 14 (by decide) (by decide) (by decide)).trans R.2.2.1.2), ⟨n8, (f0.2 9 (by decide) (by decide) (by decide)).trans R.2.2.2.1.1.2.1, fun p hp => (R.2.2.2.1.1.2.2 p hp).congr (f0.1 8 (by omega))⟩, R.2.2.2.1.2.1⟩
  obtain ⟨M, q1, q2, q3, q4⟩ := V.lives
  have q5 : RLv (mset M 0 13 0) K.1 (HK K.2.1.1 K.2.1.2 on) K.2.2.1.1 K.2.2.1.2.1 := q4.ag (mset_o (by decide)) (fun k h1 _ => mset_n (by omega))
  refine ⟨mset M 0 13 0, ?_, (f0.frA q2).back R.2.2.1.1⟩
  unfold F10_isOpen
  simp only [lt]
  rw [q1, Option.bind_some, r_hears q5 ht, Option.bind_some, show (mset M 0 13 0) 0 9 = nI K.2.2.1.1 from q5.2.2.1]
  simp only [bits_fullI _ n8]
  unfold openB
  cases allB (fun p => hrS K.1 (HK K.2.1.1 K.2.1.2 on) (K.2.2.1.2.1 p) t) K.2.2.1.1 <;> rfl
theorem on_0 {n : Nat} : ∀ i, i < n → (fun _ => true : Nat → Bool) i = !((0 : Nat).testBit i) := fun i _ => by rw [Nat.zero_testBit]; rfl
theorem on_1 {n a : Nat} : ∀ i, i < n → (fun i => !(i == a) : Nat → Bool) i = !((2 ^ a).testBit i) := fun i _ => by
  rw [Nat.testBit_two_pow]
  show (!(i == a)) = _
  by_cases e : i = a
  · subst e; simp
  · rw [beqf e, decide_eq_false (fun z => e z.symm)]
theorem on_2 {n a b : Nat} : ∀ i, i < n → (fun i => !(i == a || i == b) : Nat → Bool) i = !((2 ^ a ||| 2 ^ b).testBit i) := fun i hi => by
  rw [Nat.testBit_or]
  have h1 := on_1 (a := a) i hi
  have h2 := on_1 (a := b) i hi
  dsimp only at h1 h2 ⊢
  rw [Bool.not_or, Bool.not_or, h1, h2]
theorem r_lid {mm : Mem} {K : KX} (R : RB mm K) {e : Nat} (he : e < K.2.1.2) : F10_isLid (nI e) mm = some (b2i (lidB K e)) := by
  have e8 := R.e8
  obtain ⟨⟨a1, -, -⟩, l1, -, -⟩ := R.2.1.2.2.2 e he
  unfold F10_isLid lidB
  rw [zm3, ckI (show 3 * e < 24 by omega) (by decide), nI_clamp (show 3 * e < 2 ^ 31 by omega), a1]
  simp only [ze1 (show K.2.1.1.1 e < 2 ^ 31 by omega)]
  by_cases c : K.2.1.1.1 e = 1
  · rw [if_pos c, c]; rfl
  · rw [if_neg c, beqf c]; rfl
theorem r_openOf {mm : Mem} {K : KX} (R : RB mm K) {t : Nat} (ht : t < 8) (i : Int32) : ∃ mm', F10_openOf (nI t) i mm = some (aOpenOf K t i, mm') ∧ FrB mm mm' := by
  have e8 := R.e8
  have pw : ∀ a, a < 8 → 2 ^ a < 2 ^ 31 := fun a ha => Nat.pow_lt_pow_right (by decide) (by omega)
  have inn : ∀ (kx131 : Int32 → Int32 → Mem → Option (Int32 × Mem)) (kx157 : Int32 → Mem → Option (Int32 × Mem)) (a : Nat) (M : Mem), a < K.2.1.2 → FrB mm M → ∃ M', F10_openOf_h89 kx131 kx157 (nI t) i FU (nI a) (nI (a + 1)) M = (match open2f K t a with | none => kx157 (nI a) M' | some b => kx131 (nI a) (nI b) M') ∧ FrB mm M' := by
    intro kx131 kx157 a M ha fM
    refine lpQ (fun n (s : Int32 × Mem) => F10_openOf_h89 kx131 kx157 (nI t) i n (nI a) s.1 s.2) (fun p s => s.1 = nI p ∧ FrB mm s.2 ∧ a < p ∧ fsB (open2 K t a) p = none) (fun r => ∃ M', r = (match open2f K t a with | none => kx157 (nI a) M' | some b => kx131 (nI a) (nI b) M') ∧ FrB mm M') K.2.1.2 ?_ ?_ (K.2.1.2 - (a + 1)) FU (a + 1) (nI (a + 1), M) (by omega) (FU_lt (by omega)) ⟨rfl, fM, Nat.lt_succ_self a, fsB_low (fun j hj => by unfold open2; rw [decide_eq_false (by omega)]; rfl)⟩
    · rintro n p ⟨x, M1⟩ hp ⟨e1, f, hap, hf⟩
      dsimp only at e1 f
      subst e1
      have R1 := R.fr f
      have hor : ((1 : Int32) <<< (nI a &&& (31 : Int32))) ||| ((1 : Int32) <<< (nI p &&& (31 : Int32))) = nI (2 ^ a ||| 2 ^ p) := by rw [shl_n (by omega), shl_n (by omega), nI_or]
      obtain ⟨M2, q1, q2⟩ := r_isOpen R1 ht (Nat.or_lt_two_pow (pw a (by omega)) (pw p (by omega))) (on_2 (a := a) (b := p))
      have e : F10_openOf_h89 kx131 kx157 (nI t) i (n + 1) (nI a) (nI p) M1 = if lidB K a && lidB K p then (if openB K t (fun i => !(i == a || i == p)) then kx131 (nI a) (nI p) M2 else F10_openOf_h89 kx131 kx157 (nI t) i n (nI a) (nI (p + 1)) M2) else F10_openOf_h89 kx131 kx157 (nI t) i n (nI a) (nI (p + 1)) M1 := by
        show F10_openOf_p89 _ _ _ _ _ (nI a) (nI p) M1 = _
        unfold F10_openOf_p89 F10_openOf_b151
        rw [show M1 0 11 = nI K.2.1.2 from R1.2.1.2.1, if_neg (nI_ge hp (by omega)), r_lid R1 ha, r_lid R1 hp, Option.bind_some, Option.bind_some, hor, q1, Option.bind_some, nI_1 p]
        cases lidB K a <;> cases lidB K p <;> cases openB K t (fun i => !(i == a || i == p)) <;> rfl
      cases h1 : lidB K a && lidB K p with
      | false =>
        left
        rw [h1, if_neg (by decide)] at e
        exact ⟨(nI (p + 1), M1), e, rfl, f, by omega, by unfold fsB; rw [hf]; dsimp only; unfold open2; rw [h1, Bool.and_false]; rfl⟩
      | true =>
        rw [h1, if_pos rfl] at e
        cases h2 : openB K t (fun i => !(i == a || i == p)) with
        | false =>
          left
          rw [h2, if_neg (by decide)] at e
          exact ⟨(nI (p + 1), M2), e, rfl, f.trans q2, by omega, by unfold fsB; rw [hf]; dsimp only; unfold open2; rw [h2, Bool.and_false]; rfl⟩
        | true =>
          right
          rw [h2, if_pos rfl] at e
          refine ⟨M2, ?_, f.trans q2⟩
          have : fsB (open2 K t a) (p + 1) = some p := by unfold fsB; rw [hf]; dsimp only; unfold open2; rw [h1, h2, decide_eq_true hap]; rfl
          unfold open2f
          rw [fsB_ge this (by omega)]
          exact e
    · rintro n ⟨x, M1⟩ ⟨e1, f, hap, hf⟩
      dsimp only at e1 f
      subst e1
      refine ⟨M1, ?_, f⟩
      show F10_openOf_p89 _ _ _ _ _ (nI a) (nI K.2.1.2) M1 = _
      unfold F10_openOf_p89 open2f
      rw [show M1 0 11 = nI K.2.1.2 from (R.fr f).2.1.2.1, if_pos (nI_le (Nat.le_refl _) (by omega)), hf]
  have two : ∀ M, FrB mm M → ∃ mm', F10_openOf_b74 (nI t) i M = some (match fsB (fun a => (open2f K t a).isSome) K.2.1.2 with | some a => if i = -1 then 2 else if i = 0 then nI a else en (open2f K t a) | none => -1, mm') ∧ FrB mm mm' := by
    intro M0 f0
    unfold F10_openOf_b74
    refine lpF (fun n (s : Int32 × Mem) => F10_openOf_h76 (F10_openOf_b131 (nI t) i) (nI t) i n s.1 s.2) (fun p s => s.1 = nI p ∧ FrB mm s.2 ∧ fsB (fun a => (open2f K t a).isSome) p = none) (fun r => ∃ mm', r = some (match fsB (fun a => (open2f K t a).isSome) K.2.1.2 with | some a => if i = -1 then 2 else if i = 0 then nI a else en (open2f K t a) | none => -1, mm') ∧ FrB mm mm') K.2.1.2 (by omega) ?_ ?_ (0, M0) ⟨rfl, f0, rfl⟩
    · rintro n p ⟨x, M1⟩ hp ⟨e1, f, hf⟩
      dsimp only at e1 f
      subst e1
      obtain ⟨M2, q1, q2⟩ := inn (F10_openOf_b131 (nI t) i) (F10_openOf_b157 (F10_openOf_h76 (F10_openOf_b131 (nI t) i) (nI t) i n) (F10_openOf_b131 (nI t) i) (nI t) i) p M1 hp f
      have e : F10_openOf_h76 (F10_openOf_b131 (nI t) i) (nI t) i (n + 1) (nI p) M1 = match open2f K t p with | none => F10_openOf_h76 (F10_openOf_b131 (nI t) i) (nI t) i n (nI (p + 1)) M2 | some b => F10_openOf_b131 (nI t) i (nI p) (nI b) M2 := by
        show F10_openOf_p76 _ _ _ _ (nI p) M1 = _
        unfold F10_openOf_p76
        rw [show M1 0 11 = nI K.2.1.2 from (R.fr f).2.1.2.1, if_neg (nI_ge hp (by omega)), nI_1 p, q1]
        cases open2f K t p with
        | none => dsimp only; unfold F10_openOf_b157; rw [nI_1 p]
        | some b => rfl
      cases h2 : open2f K t p with
      | none =>
        left
        rw [h2] at e
        exact ⟨(nI (p + 1), M2), e, rfl, q2, by unfold fsB; rw [hf]; dsimp only; rw [h2]; rfl⟩
      | some b =>
        right
        rw [h2] at e
        refine ⟨M2, ?_, q2⟩
        have : fsB (fun a => (open2f K t a).isSome) (p + 1) = some p := by unfold fsB; rw [hf]; dsimp only; rw [h2]; rfl
        rw [fsB_ge this (by omega)]
        dsimp only
        rw [e, h2]
        dsimp only
        unfold F10_openOf_b131
        by_cases z1 : i = -1
        · rw [if_pos z1, if_pos z1]
        · rw [if_neg z1, if_neg z1]
          by_cases z2 : i = 0
          · rw [if_pos z2, if_pos z2]
          · rw [if_neg z2, if_neg z2]; rfl
    · rintro n ⟨x, M1⟩ ⟨e1, f, hf⟩
      dsimp only at e1 f
      subst e1
      refine ⟨M1, ?_, f⟩
      show F10_openOf_p76 _ _ _ _ (nI K.2.1.2) M1 = _
      unfold F10_openOf_p76
      rw [show M1 0 11 = nI K.2.1.2 from (R.fr f).2.1.2.1, if_pos (nI_le (Nat.le_refl _) (by omega)), hf]
  obtain ⟨M, r1, r2⟩ := r_isOpen (N := 0) R ht (by decide) on_0
  unfold F10_openOf aOpenOf
  rw [show (0 : Int32) = nI 0 from rfl, r1, Option.bind_some]
  dsimp only
  cases h0 : openB K t (fun _ => true) with
  | true =>
    rw [if_neg (show ¬ b2i true = nI 0 by decide), if_pos rfl]
    exact ⟨M, by split <;> rfl, r2⟩
  | false =>
    rw [if_pos (show b2i false = nI 0 from rfl), if_neg (by decide)]
    refine lpF (fun n (s : Int32 × Mem) => F10_openOf_h22 (F10_openOf_b49 (nI t) i) (F10_openOf_b74 (nI t) i) (nI t) i n s.1 s.2) (fun p s => s.1 = nI p ∧ FrB mm s.2 ∧ fsB (open1 K t) p = none) (fun r => ∃ mm', r = some (match fsB (open1 K t) K.2.1.2 with | some e => if i = -1 then 1 else if i = nI 0 then nI e else -1 | none => match fsB (fun a => (open2f K t a).isSome) K.2.1.2 with | some a => if i = -1 then 2 else if i = nI 0 then nI a else en (open2f K t a) | none => -1, mm') ∧ FrB mm mm') K.2.1.2 (by omega) ?_ ?_ (nI 0, M) ⟨rfl, r2, rfl⟩
    · rintro n p ⟨x, M1⟩ hp ⟨e1, f, a⟩
      dsimp only at e1 f a
      subst e1
      have R1 := R.fr f
      obtain ⟨M2, q1, q2⟩ := r_isOpen R1 ht (pw p (by omega)) (on_1 (a := p))
      have e : F10_openOf_h22 (F10_openOf_b49 (nI t) i) (F10_openOf_b74 (nI t) i) (nI t) i (n + 1) (nI p) M1 = if lidB K p then (if openB K t (fun i => !(i == p)) then F10_openOf_b49 (nI t) i (nI p) M2 else F10_openOf_h22 (F10_openOf_b49 (nI t) i) (F10_openOf_b74 (nI t) i) (nI t) i n (nI (p + 1)) M2) else F10_openOf_h22 (F10_openOf_b49 (nI t) i) (F10_openOf_b74 (nI t) i) (nI t) i n (nI (p + 1)) M1 := by
        show F10_openOf_p22 _ _ _ _ _ (nI p) M1 = _
        unfold F10_openOf_p22 F10_openOf_b68
        rw [show M1 0 11 = nI K.2.1.2 from R1.2.1.2.1, if_neg (nI_ge hp (by omega)), r_lid R1 hp, Option.bind_some, shl_n (by omega), q1, Option.bind_some, nI_1 p]
        cases lidB K p <;> cases openB K t (fun i => !(i == p)) <;> rfl
      cases h1 : lidB K p with
      | false =>
        left
        rw [h1, if_neg (by decide)] at e
        exact ⟨(nI (p + 1), M1), e, rfl, f, by unfold fsB; rw [a]; dsimp only; unfold open1; rw [h1]; rfl⟩
      | true =>
        rw [h1, if_pos rfl] at e
        cases h2 : openB K t (fun i => !(i == p)) with
        | false =>
          left
          rw [h2, if_neg (by decide)] at e
          exact ⟨(nI (p + 1), M2), e, rfl, f.trans q2, by unfold fsB; rw [a]; dsimp only; unfold open1; rw [h1, h2]; rfl⟩
        | true =>
          right
          rw [h2, if_pos rfl] at e
          refine ⟨M2, ?_, f.trans q2⟩
          have : fsB (open1 K t) (p + 1) = some p := by unfold fsB; rw [a]; dsimp only; unfold open1; rw [h1, h2]; rfl
          rw [fsB_ge this (by omega)]
          dsimp only
          rw [e]
          unfold F10_openOf_b49
          rw [show (0 : Int32) = nI 0 from rfl]
          by_cases z1 : i = -1
          · rw [if_pos z1, if_pos z1]
          · rw [if_neg z1, if_neg z1]
            by_cases z2 : i = nI 0
            · rw [if_pos z2, if_pos z2]
            · rw [if_neg z2, if_neg z2]
    · rintro n ⟨x, M1⟩ ⟨e1, f, a⟩
      dsimp only at e1 f a
      subst e1
      obtain ⟨M2, p1, p2⟩ := two M1 f
      refine ⟨M2, ?_, p2⟩
      show F10_openOf_p22 _ _ _ _ _ (nI K.2.1.2) M1 = _
      unfold F10_openOf_p22
      rw [show M1 0 11 = nI K.2.1.2 from (R.fr f).2.1.2.1, if_pos (nI_le (Nat.le_refl _) (by omega)), a]
      exact p1
