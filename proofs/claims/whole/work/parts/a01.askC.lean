/-! the class: hears, soon, gone, babel -/
def aHears (K : KX) (v : Int32) : Int32 := if 0 ≤ v ∧ v < nI K.1.1 then nI (bitsN (fun p => hrS K.1 (H0 K) (K.2.2.1.2.1 p) v.toNatClampNeg) K.2.2.1.1) else -2
def aSoon (K : KX) (v : Int32) : Int32 := if 0 ≤ v ∧ v < nI K.1.1 then en (minF (fun p => fhS K.1 (H0 K) (K.2.2.1.2.1 p) v.toNatClampNeg) K.2.2.1.1) else -2
def aGone (K : KX) : Int32 := nI (bitsN (fun p => goneS K.1 (H0 K) (K.2.2.1.2.1 p)) K.2.2.1.1)
theorem KO.l64 {S : KS} (l : KO S) : 1 ≤ S.2.2.2 ∧ S.2.2.2 < 64 := ⟨l.2.2.2.1, by have := l.2.2.2.2; omega⟩
theorem c_hears {mc : Mem} {K : KX} (I : CI mc K) (v : Int32) : ∃ mc', F9_hears v mc = some (aHears K v, mc') ∧ FC mc mc' ∧ CI mc' K := by
  have h8 := I.1.w8
  have n8 := I.1.n8
  unfold F9_hears aHears
  rw [I.1.1.1.2.1, f9_b]
  by_cases c : 0 ≤ v ∧ v < nI K.1.1
  · rw [if_pos c, if_pos c]
    obtain ⟨k, hk, rfl⟩ := i_of (by omega) c
    obtain ⟨M, r1, r2, r3, -, -⟩ := f9_refresh I
    rw [r1, Option.bind_some, nI_clamp (show k < 2 ^ 31 by omega)]
    refine ⟨M, ?_, r2, r3.ci⟩
    refine up_all (fun n a i => F9_hears_h25 (nI k) n a i M) (fun i => nI (bitsN (fun p => hrS K.1 (H0 K) (K.2.2.1.2.1 p) k) i)) K.2.2.1.1 _ (by omega) ?_ ?_
    · intro n
      show F9_hears_p25 _ _ _ _ _ = _
      unfold F9_hears_p25
      rw [r3.1.2.2.1.2.1, if_pos (nI_le (Nat.le_refl _) (by omega))]
    · intro n p hp
      show F9_hears_p25 _ _ _ _ _ = _
      unfold F9_hears_p25 F9_hears_b55
      rw [r3.1.2.2.1.2.1, if_neg (nI_ge hp (by omega)), ckI (show p < 8 by omega) (by decide), nI_clamp (show p < 2 ^ 31 by omega), f4_heard (r3.2.1.2 p hp) (by omega), Option.bind_some, nI_1]
      cases c : hrS K.1 (H0 K) (K.2.2.1.2.1 p) k with
      | false => rw [if_pos (show b2i false = 0 from rfl), bits_skip (fun p => hrS K.1 (H0 K) (K.2.2.1.2.1 p) k) c]
      | true => rw [if_neg (show ¬ b2i true = 0 by decide), bits_step (fun p => hrS K.1 (H0 K) (K.2.2.1.2.1 p) k) (by omega) c]
  · rw [if_neg c, if_neg c]
    exact ⟨mc, rfl, FC.refl mc, I⟩
theorem c_soon {mc : Mem} {K : KX} (I : CI mc K) (v : Int32) : ∃ mc', F9_soon v mc = some (aSoon K v, mc') ∧ FC mc mc' ∧ CI mc' K := by
  have h8 := I.1.w8
  have n8 := I.1.n8
  unfold F9_soon aSoon
  rw [I.1.1.1.2.1, f9_b]
  by_cases c : 0 ≤ v ∧ v < nI K.1.1
  · rw [if_pos c, if_pos c]
    obtain ⟨k, hk, rfl⟩ := i_of (by omega) c
    obtain ⟨M, r1, r2, r3, -, -⟩ := f9_refresh I
    rw [r1, Option.bind_some, nI_clamp (show k < 2 ^ 31 by omega)]
    refine ⟨M, ?_, r2, r3.ci⟩
    refine up_all (fun n a i => F9_soon_h25 (nI k) n a i M) (fun i => en (minF (fun p => fhS K.1 (H0 K) (K.2.2.1.2.1 p) k) i)) K.2.2.1.1 _ (by omega) ?_ ?_
    · intro n
      show F9_soon_p25 _ _ _ _ _ = _
      unfold F9_soon_p25
      rw [r3.1.2.2.1.2.1, if_pos (nI_le (Nat.le_refl _) (by omega))]
    · intro n p hp
      show F9_soon_p25 _ _ _ _ _ = _
      unfold F9_soon_p25 F9_soon_b65
      unfold F9_soon_b68
      rw [r3.1.2.2.1.2.1, if_neg (nI_ge hp (by omega)), ckI (show p < 8 by omega) (by decide), nI_clamp (show p < 2 ^ 31 by omega), f4_first (r3.2.1.2 p hp) (r3.1.2.2.1.2.2 p hp).2 h8 (by omega), Option.bind_some, nI_1, minF_s]
      cases c : fhS K.1 (H0 K) (K.2.2.1.2.1 p) k with
      | none => rw [if_pos (show en none = -1 from rfl)]
      | some h =>
        have hh := fh_lt c
        rw [if_neg (show ¬ en (some h) = -1 from nI_ne1 (by omega))]
        cases d : minF (fun p => fhS K.1 (H0 K) (K.2.2.1.2.1 p) k) p with
        | none => rw [if_pos (show en none = -1 from rfl)]
        | some b =>
          have hb := minF_lt (c := 40) (fun i j hj => fh_lt hj) d
          rw [if_neg (show ¬ en (some b) = -1 from nI_ne1 (by omega))]
          simp only [en, leI (show b < 2 ^ 31 by omega) (show h < 2 ^ 31 by omega)]
          by_cases e : b ≤ h
          · rw [if_pos e, if_neg (by omega)]
          · rw [if_neg e, if_pos (by omega)]
  · rw [if_neg c, if_neg c]
    exact ⟨mc, rfl, FC.refl mc, I⟩
theorem c_gone {mc : Mem} {K : KX} (I : CI mc K) : ∃ mc', F9_gone mc = some (aGone K, mc') ∧ FC mc mc' ∧ CF mc' K ∧ (∀ k, 79 ≤ k → mc' k = mc k) := by
  have n8 := I.1.n8
  unfold F9_gone aGone
  obtain ⟨M, r1, r2, r3, r4, -⟩ := f9_refresh I
  rw [r1, Option.bind_some]
  refine ⟨M, ?_, r2, r3, r4⟩
  refine up_all (fun n a i => F9_gone_h8 n a i M) (fun i => nI (bitsN (fun p => goneS K.1 (H0 K) (K.2.2.1.2.1 p)) i)) K.2.2.1.1 _ (by omega) ?_ ?_
  · intro n
    show F9_gone_p8 _ _ _ _ = _
    unfold F9_gone_p8
    rw [r3.1.2.2.1.2.1, if_pos (nI_le (Nat.le_refl _) (by omega))]
  · intro n p hp
    show F9_gone_p8 _ _ _ _ = _
    unfold F9_gone_p8 F9_gone_b37
    rw [r3.1.2.2.1.2.1, if_neg (nI_ge hp (by omega)), ckI (show p < 8 by omega) (by decide), nI_clamp (show p < 2 ^ 31 by omega), f4_gone (r3.2.1.2 p hp) (r3.1.2.2.1.2.2 p hp).2.l64, Option.bind_some, nI_1]
    cases c : goneS K.1 (H0 K) (K.2.2.1.2.1 p) with
    | false => rw [if_pos (show b2i false = 0 from rfl), bits_skip (fun p => goneS K.1 (H0 K) (K.2.2.1.2.1 p)) c]
    | true => rw [if_neg (show ¬ b2i true = 0 by decide), bits_step (fun p => goneS K.1 (H0 K) (K.2.2.1.2.1 p)) (by omega) c]
/-- bits for the first and for the second time -/
theorem cnt_s (p : Nat → Bool) (n : Nat) : cntN p (n + 1) = cntN p n + b2n (p n) := rfl
theorem stepS_heard {W : KW} {H : KH} {S : KS} {h : Nat} {X : ST} (e : (stepS W H S h X).2 = true) : ∃ k, (stepS W H S h X).1.1 = some k := by
  have hc : ∀ i, (comeS W (S.2.2.1 == 1) h i X).2 = true → ∃ k, (comeS W (S.2.2.1 == 1) h i X).1.1 = some k := by
    intro i
    unfold comeS
    split
    · intro z; cases z
    · intro _; exact ⟨i, rfl⟩
  by_cases c : S.1 = h
  · rw [stepS_read c] at e ⊢
    split at e <;> cases e
  · cases hX : X.1 with
    | none => rw [stepS_none c hX] at e; cases e
    | some k =>
      rw [stepS_nxt c hX] at e ⊢
      split at e
      · split at e <;> cases e
      · rename_i d
        rw [if_neg d]
        split at e
        · cases e
        · rename_i i hi
          exact hc i e
theorem bt_andb {x : Int32} {f : Nat → Bool} (h : BT x f) {k : Nat} (hk : k < 8) : BT (x &&& ((1 : Int32) <<< (nI k &&& (31 : Int32)))) (fun j => f j && j == k) := by
  obtain ⟨N, h1, rfl, h2⟩ := h
  have h3 : 2 ^ k < 2 ^ 8 := Nat.pow_lt_pow_right (by decide) hk
  have : nI N &&& nI (2 ^ k) = nI (N &&& 2 ^ k) := Int32.toBitVec_inj.mp (by rw [Int32.toBitVec_and]; exact BitVec.ofNat_and.symm)
  rw [one_shl hk, this]
  refine ⟨N &&& 2 ^ k, Nat.and_lt_two_pow (n := 8) N h3, rfl, fun j hj => ?_⟩
  rw [Nat.testBit_and, h2 j hj, Nat.testBit_two_pow]
  congr 1
  by_cases e : k = j
  · subst e; simp
  · rw [decide_eq_false e, beqf (fun z => e z.symm)]
theorem bt_orb {x y : Int32} {f g : Nat → Bool} (h : BT x f) (h' : BT y g) : BT (x ||| y) (fun j => f j || g j) := by
  obtain ⟨N, h1, rfl, h2⟩ := h
  obtain ⟨L, l1, rfl, l2⟩ := h'
  rw [nI_or]
  refine ⟨N ||| L, Nat.or_lt_two_pow (n := 8) h1 l1, rfl, fun j hj => ?_⟩
  rw [Nat.testBit_or, h2 j hj, l2 j hj]
theorem two_loop {mc : Mem} {K : KX} (I : CF mc K) {h : Nat} (hh : h < 40) : F9_leastWellOfTwo (nI h) mc = some (en (bbW K.1 (H0 K) K.2.2.1.1 K.2.2.1.2.1 h)) := by
  have h8 := I.1.w8
  have n8 := I.1.n8
  unfold F9_leastWellOfTwo
  refine lpF (fun n (s : Int32 × Int32 × Int32) => F9_leastWellOfTwo_h7 (F9_leastWellOfTwo_b69 (nI h) mc) (nI h) mc n s.1 s.2.1 s.2.2) (fun i s => s.2.2 = nI i ∧ BT s.1 (fun k => decide (0 < cntN (fun p => hAt K.1 (H0 K) (K.2.2.1.2.1 p) k h) i)) ∧ BT s.2.1 (fun k => decide (1 < cntN (fun p => hAt K.1 (H0 K) (K.2.2.1.2.1 p) k h) i))) (fun r => r = some (en (bbW K.1 (H0 K) K.2.2.1.1 K.2.2.1.2.1 h))) K.2.2.1.1 (by omega) ?_ ?_ (0, 0, 0) ⟨rfl, bt_0, bt_0⟩
  · rintro n p ⟨a, b, x⟩ hp ⟨e, c1, c2⟩
    dsimp only at e c1 c2
    subst e
    left
    obtain ⟨f1, f2, f3, f4⟩ := (I.2.1.2 p hp).1 h hh
    have ko := (I.1.2.2.1.2.2 p hp).2
    have ew : F9_leastWellOfTwo_h7 (F9_leastWellOfTwo_b69 (nI h) mc) (nI h) mc (n + 1) a b (nI p) = if b2i (hrdS K.1 (H0 K) (K.2.2.1.2.1 p) h) = 1 then F9_leastWellOfTwo_h7 (F9_leastWellOfTwo_b69 (nI h) mc) (nI h) mc n (a ||| ((1 : Int32) <<< (en (lifS K.1 (H0 K) (K.2.2.1.2.1 p) (h + 1)).1 &&& (31 : Int32)))) (b ||| (a &&& ((1 : Int32) <<< (en (lifS K.1 (H0 K) (K.2.2.1.2.1 p) (h + 1)).1 &&& (31 : Int32))))) (nI (p + 1)) else F9_leastWellOfTwo_h7 (F9_leastWellOfTwo_b69 (nI h) mc) (nI h) mc n a b (nI (p + 1)) := by
      show F9_leastWellOfTwo_p7 _ _ _ _ _ _ _ = _
      unfold F9_leastWellOfTwo_p7 F9_leastWellOfTwo_b63
      rw [I.1.2.2.1.2.1, if_neg (nI_ge hp (by omega)), ckI (show p < 8 by omega) (by decide), ckI hh (by decide), ckI (show p < 8 by omega) (by decide), ckI hh (by decide), nI_clamp (show p < 2 ^ 31 by omega), nI_clamp (show h < 2 ^ 31 by omega), f4, f1, nI_1]
    dsimp only
    rw [ew]
    cases hd : hrdS K.1 (H0 K) (K.2.2.1.2.1 p) h with
    | false =>
      rw [if_neg (show ¬ b2i false = 1 by decide)]
      refine ⟨(a, b, nI (p + 1)), rfl, rfl, bt_cg c1 (fun k _ => ?_), bt_cg c2 (fun k _ => ?_)⟩
      · rw [cnt_s]; unfold hAt; rw [hd]; rfl
      · rw [cnt_s]; unfold hAt; rw [hd]; rfl
    | true =>
      rw [if_pos (show b2i true = 1 from rfl)]
      cases hl : (lifS K.1 (H0 K) (K.2.2.1.2.1 p) (h + 1)).1 with
      | none =>
        exfalso
        have h1 : (stepS K.1 (H0 K) (K.2.2.1.2.1 p) h (lifS K.1 (H0 K) (K.2.2.1.2.1 p) h)).2 = true := hd
        have h2 : (stepS K.1 (H0 K) (K.2.2.1.2.1 p) h (lifS K.1 (H0 K) (K.2.2.1.2.1 p) h)).1.1 = none := hl
        exact absurd (stepS_heard h1) (by rw [h2]; rintro ⟨k, z⟩; cases z)
      | some w =>
        have hw := lif_lt ko hl
        refine ⟨(a ||| ((1 : Int32) <<< (nI w &&& (31 : Int32))), b ||| (a &&& ((1 : Int32) <<< (nI w &&& (31 : Int32)))), nI (p + 1)), rfl, rfl, bt_cg (bt_or c1 (show w < 8 by omega)) (fun k _ => ?_), bt_cg (bt_orb c2 (bt_andb c1 (show w < 8 by omega))) (fun k _ => ?_)⟩
        · rw [cnt_s]; unfold hAt; rw [hd, hl]
          by_cases e : k = w
          · subst e; simp [b2n]
          · have : ¬ w = k := fun z => e z.symm
            simp [b2n, e, this]
        · rw [cnt_s]; unfold hAt; rw [hd, hl]
          by_cases e : k = w
          · subst e
            rw [Bool.eq_iff_iff]; simp [b2n]; omega
          · have : ¬ w = k := fun z => e z.symm
            simp [b2n, e, this]
  · rintro n ⟨a, b, x⟩ ⟨e, c1, c2⟩
    dsimp only at e c1 c2
    subst e
    show F9_leastWellOfTwo_p7 _ _ _ _ _ _ _ = _
    unfold F9_leastWellOfTwo_p7 F9_leastWellOfTwo_b69
    rw [I.1.2.2.1.2.1, if_pos (nI_le (Nat.le_refl _) (by omega))]
    refine lpF (fun n (s : Int32) => F9_leastWellOfTwo_h72 (nI h) mc n b s) (fun i s => s = nI i ∧ fsB (twoS K.1 (H0 K) K.2.2.1.1 K.2.2.1.2.1 h) i = none) (fun r => r = some (en (bbW K.1 (H0 K) K.2.2.1.1 K.2.2.1.2.1 h))) K.1.1 (by omega) ?_ ?_ 0 ⟨rfl, rfl⟩
    · rintro n k s hk ⟨rfl, hf⟩
      have e : F9_leastWellOfTwo_h72 (nI h) mc (n + 1) b (nI k) = if twoS K.1 (H0 K) K.2.2.1.1 K.2.2.1.2.1 h k then some (nI k) else F9_leastWellOfTwo_h72 (nI h) mc n b (nI (k + 1)) := by
        show F9_leastWellOfTwo_p72 _ _ _ _ _ = _
        unfold F9_leastWellOfTwo_p72
        rw [I.1.1.1.2.1, if_neg (nI_ge hk (by omega)), bt_test c2 (show k < 8 by omega), nI_1]
        show _ = if decide (1 < cntN (fun p => hAt K.1 (H0 K) (K.2.2.1.2.1 p) k h) K.2.2.1.1) = true then _ else _
        cases decide (1 < cntN (fun p => hAt K.1 (H0 K) (K.2.2.1.2.1 p) k h) K.2.2.1.1) <;> rfl
      by_cases c : twoS K.1 (H0 K) K.2.2.1.1 K.2.2.1.2.1 h k = true
      · right
        have : fsB (twoS K.1 (H0 K) K.2.2.1.1 K.2.2.1.2.1 h) (k + 1) = some k := by unfold fsB; rw [hf]; dsimp only; rw [if_pos c]
        unfold bbW
        rw [e, if_pos c, fsB_ge this (by omega)]
        rfl
      · left
        exact ⟨nI (k + 1), by rw [e, if_neg c], rfl, by unfold fsB; rw [hf]; dsimp only; rw [if_neg c]⟩
    · rintro n s ⟨rfl, hf⟩
      unfold bbW
      rw [hf]
      show F9_leastWellOfTwo_p72 _ _ _ _ _ = _
      unfold F9_leastWellOfTwo_p72
      rw [I.1.1.1.2.1, if_pos (nI_le (Nat.le_refl _) (by omega))]
      rfl
theorem bbW_lt {W : KW} {H : KH} {ns : Nat} {SS : Nat → KS} {h k : Nat} (e : bbW W H ns SS h = some k) : k < W.1 := (fsB_lt e).1
theorem c_babel {mc : Mem} {K : KX} (I : CI mc K) (v : Int32) : ∃ mc', F9_babel v mc = some (if 0 ≤ v ∧ v < 2 then aBabel K.1 (H0 K) K.2.2.1.1 K.2.2.1.2.1 v else -2, mc') ∧ FC mc mc' ∧ CI mc' K := by
  have h8 := I.1.w8
  unfold F9_babel
  rw [f9_b]
  by_cases c : 0 ≤ v ∧ v < 2
  · rw [if_pos c, if_pos c]
    obtain ⟨M, r1, r2, r3, -, -⟩ := f9_refresh I
    rw [r1, Option.bind_some]
    refine ⟨M, ?_, r2, r3.ci⟩
    refine lpF (fun n (s : Int32) => F9_babel_h17 (F9_babel_b34 v) v n s M) (fun i s => s = nI i ∧ fsB (fun h => (bbW K.1 (H0 K) K.2.2.1.1 K.2.2.1.2.1 h).isSome) i = none) (fun r => r = some (aBabel K.1 (H0 K) K.2.2.1.1 K.2.2.1.2.1 v, M)) 40 (by decide) ?_ ?_ 0 ⟨rfl, rfl⟩
    · rintro n h s hh ⟨rfl, hf⟩
      have e : F9_babel_h17 (F9_babel_b34 v) v (n + 1) (nI h) M = match bbW K.1 (H0 K) K.2.2.1.1 K.2.2.1.2.1 h with | none => F9_babel_h17 (F9_babel_b34 v) v n (nI (h + 1)) M | some k => F9_babel_b34 v (nI h) (nI k) M := by
        show F9_babel_p17 _ _ _ _ _ = _
        unfold F9_babel_p17
        rw [if_neg (show ¬ (40 : Int32) ≤ nI h from nI_ge (b := 40) hh (by decide)), two_loop r3 hh, Option.bind_some, nI_1]
        cases hb : bbW K.1 (H0 K) K.2.2.1.1 K.2.2.1.2.1 h with
        | none => rfl
        | some k => have := bbW_lt hb; rw [if_neg (show ¬ en (some k) = -1 from nI_ne1 (by omega))]; rfl
      cases c : bbW K.1 (H0 K) K.2.2.1.1 K.2.2.1.2.1 h with
      | none =>
        left
        rw [c] at e
        exact ⟨nI (h + 1), e, rfl, by unfold fsB; rw [hf]; dsimp only; rw [c]; rfl⟩
      | some k =>
        right
        rw [c] at e
        have : fsB (fun h => (bbW K.1 (H0 K) K.2.2.1.1 K.2.2.1.2.1 h).isSome) (h + 1) = some h := by unfold fsB; rw [hf]; dsimp only; rw [c]; rfl
        rw [e]
        unfold aBabel bbH
        rw [fsB_ge this (by omega)]
        dsimp only
        rw [c]
        unfold F9_babel_b34
        split <;> rfl
    · rintro n s ⟨rfl, hf⟩
      unfold aBabel bbH
      rw [hf]
      rfl
  · rw [if_neg c, if_neg c]
    exact ⟨mc, rfl, FC.refl mc, I⟩
