/-! the class: toss -/
def tossP (K : KX) (t c : Nat) (v : Int32) : Int32 := match maxA (tossN K t) c with
  | none => -1
  | some b => if v = 0 then nI (b / K.1.1) else if v = 1 then nI (b % K.1.1) else nI (tossN K t b)
theorem tossP_all (K : KX) (t : Nat) (v : Int32) : aToss K t v = tossP K t (40 * K.1.1) v := rfl
def BP (M : Mem) (K : KX) (t c : Nat) : Prop := M (100 + t) 0 = tossP K t c 0 ∧ M (100 + t) 1 = tossP K t c 1 ∧ M (100 + t) 2 = tossP K t c 2
theorem BP.eq {M M' : Mem} {K : KX} {t c : Nat} (B : BP M K t c) (h : M' (100 + t) = M (100 + t)) : BP M' K t c := by
  unfold BP; rw [h]; exact B
theorem CF.ft {mc mc' : Mem} {K : KX} (I : CF mc K) (f : FT mc mc') (g : CH mc' 34 (H0 K)) : CF mc' K := by
  obtain ⟨c1, c2, c3, c4⟩ := I
  have n8 := c1.n8
  have f0 : mc' 0 = mc 0 := f 0 (by omega) (by omega)
  exact ⟨c1.fc f.fc, ⟨g, fun p hp => (c2.2 p hp).ft f (by omega)⟩, by rw [f0]; exact c3, fun h => (c4 (by rw [← f0]; exact h)).ag (fun k hk => f k (by omega) (by omega))⟩
theorem CF.f1 {mc mc' : Mem} {K : KX} (I : CF mc K) (f : FI 100 108 mc mc') (h : ¬ mc 0 17 = 0) : CF mc' K := by
  obtain ⟨c1, c2, c3, c4⟩ := I
  have f0 : mc' 0 = mc 0 := f 0 (by omega)
  exact ⟨c1.fc (FC.of f (by omega)), c2.ag c1.n8 (fun k _ h2 => f k (by omega)), by rw [f0]; exact c3, fun z => absurd (by rw [← f0]; exact z) h⟩
theorem maxA_s (f : Nat → Nat) (n : Nat) : maxA f (n + 1) = match maxA f n with | none => some n | some b => if f b < f n then some n else some b := rfl
theorem maxA_lt {f : Nat → Nat} : ∀ {n b : Nat}, maxA f n = some b → b < n := by
  intro n
  induction n with
  | zero => intro b h; cases h
  | succ n ih =>
    intro b h
    rw [maxA_s] at h
    cases hm : maxA f n with
    | none => rw [hm] at h; cases h; omega
    | some a =>
      rw [hm] at h
      have := ih hm
      dsimp only at h
      split at h
      · cases h; omega
      · cases h; omega
theorem tossN_le {K : KX} (n8 : K.2.2.1.1 ≤ 8) (t c : Nat) : tossN K t c ≤ 8 := Nat.le_trans (cntN_le _ _) n8
theorem f0_offer {M : Mem} {K : KX} {t h w : Nat} (n8 : K.2.2.1.1 ≤ 8) (hw : w < K.1.1) (B : BP M K t (h * K.1.1 + w)) : ∃ M', F0_offer (100 + 1 * t) (nI h) (nI w) (nI (talN K h w t K.2.2.1.1)) M = some M' ∧ FI (100 + t) (100 + t + 1) M M' ∧ BP M' K t (h * K.1.1 + w + 1) := by
  have hN : talN K h w t K.2.2.1.1 = tossN K t (h * K.1.1 + w) := by
    unfold talN tossN
    rw [Nat.mul_comm h, Nat.mul_add_div (by omega), Nat.div_eq_of_lt hw, Nat.add_zero, Nat.mul_add_mod, Nat.mod_eq_of_lt hw]
  have hd : (h * K.1.1 + w) / K.1.1 = h := by rw [Nat.mul_comm h, Nat.mul_add_div (by omega), Nat.div_eq_of_lt hw, Nat.add_zero]
  have hm : (h * K.1.1 + w) % K.1.1 = w := by rw [Nat.mul_comm h, Nat.mul_add_mod, Nat.mod_eq_of_lt hw]
  rw [hN]
  have hle := tossN_le n8 t (h * K.1.1 + w)
  unfold F0_offer
  rw [Nat.one_mul]
  have f : FI (100 + t) (100 + t + 1) M (mset (mset (mset M (100 + t) 0 (nI h)) (100 + t) 1 (nI w)) (100 + t) 2 (nI (tossN K t (h * K.1.1 + w)))) := (((FI.refl _ _ _).set _ _ _ (by omega)).set _ _ _ (by omega)).set _ _ _ (by omega)
  have hset : maxA (tossN K t) (h * K.1.1 + w + 1) = some (h * K.1.1 + w) → BP (mset (mset (mset M (100 + t) 0 (nI h)) (100 + t) 1 (nI w)) (100 + t) 2 (nI (tossN K t (h * K.1.1 + w)))) K t (h * K.1.1 + w + 1) := by
    intro z
    unfold BP tossP
    rw [z]
    dsimp only
    rw [hd, hm]
    refine ⟨?_, ?_, ?_⟩
    · rw [mset_o (by decide), mset_o (by decide), mset_s, if_pos rfl]
    · rw [mset_o (by decide), mset_s, if_neg (by decide), if_pos rfl]
    · rw [mset_s, if_neg (by decide), if_neg (by decide)]
  have e2 := B.2.2
  cases hx : maxA (tossN K t) (h * K.1.1 + w) with
  | none =>
    have e : M (100 + t) 2 = -1 := by rw [e2]; unfold tossP; rw [hx]
    rw [e, if_neg (show ¬ nI (tossN K t (h * K.1.1 + w)) ≤ -1 from by
      rw [Int32.le_iff_toInt_le, nI_toInt (by omega), show (-1 : Int32).toInt = -1 from by decide]; omega)]
    exact ⟨_, rfl, f, hset (by rw [maxA_s, hx])⟩
  | some b =>
    have e : M (100 + t) 2 = nI (tossN K t b) := by rw [e2]; unfold tossP; rw [hx]; rfl
    have hb := tossN_le n8 t b
    rw [e]
    simp only [leI (show tossN K t (h * K.1.1 + w) < 2 ^ 31 by omega) (show tossN K t b < 2 ^ 31 by omega)]
    by_cases z : tossN K t (h * K.1.1 + w) ≤ tossN K t b
    · rw [if_pos z]
      refine ⟨M, rfl, FI.refl _ _ _, ?_⟩
      have hs : maxA (tossN K t) (h * K.1.1 + w + 1) = maxA (tossN K t) (h * K.1.1 + w) := by rw [maxA_s, hx]; dsimp only; rw [if_neg (by omega)]
      unfold BP tossP
      rw [hs]
      exact B
    · rw [if_neg z]
      exact ⟨_, rfl, f, hset (by rw [maxA_s, hx]; dsimp only; rw [if_pos (by omega)])⟩
theorem offers {M : Mem} {K : KX} {h w : Nat} (kx : Int32 → Int32 → Mem → Option Mem) (n8 : K.2.2.1.1 ≤ 8) (hw : w < K.1.1) (hT : ∀ t, t < 8 → M 98 t = nI (talN K h w t K.2.2.1.1)) (B : ∀ t, t < 8 → BP M K t (h * K.1.1 + w)) : ∃ M', F9_planCoins_h64 kx FU (nI h) (nI w) 0 M = kx (nI h) (nI w) M' ∧ FI 100 108 M M' ∧ ∀ t, t < 8 → BP M' K t (h * K.1.1 + w + 1) := by
  refine lpF (fun n (s : Int32 × Mem) => F9_planCoins_h64 kx n (nI h) (nI w) s.1 s.2) (fun i s => s.1 = nI i ∧ FI 100 108 M s.2 ∧ (∀ t, t < 8 → i ≤ t → BP s.2 K t (h * K.1.1 + w)) ∧ ∀ t, t < i → BP s.2 K t (h * K.1.1 + w + 1)) (fun r => ∃ M', r = kx (nI h) (nI w) M' ∧ FI 100 108 M M' ∧ ∀ t, t < 8 → BP M' K t (h * K.1.1 + w + 1)) 8 (by decide) ?_ ?_ (0, M) ⟨rfl, FI.refl _ _ _, fun t ht _ => B t ht, fun t ht => by omega⟩
  · rintro n t ⟨x, M1⟩ ht ⟨e1, f, c1, c2⟩
    dsimp only at e1 f c1 c2
    subst e1
    left
    obtain ⟨M2, q1, q2, q3⟩ := f0_offer n8 hw (c1 t ht (Nat.le_refl _))
    refine ⟨(nI (t + 1), M2), ?_, rfl, f.trans (q2.mono (by omega) (by omega)), fun j hj h1 => ?_, fun j hj => ?_⟩
    · show F9_planCoins_p64 _ kx (nI h) (nI w) (nI t) M1 = _
      unfold F9_planCoins_p64
      rw [if_neg (show ¬ (8 : Int32) ≤ nI t from nI_ge (b := 8) ht (by decide)), ckI ht (by decide), ckI (show t < 9 by omega) (by decide), nI_clamp (show t < 2 ^ 31 by omega), show M1 98 t = nI (talN K h w t K.2.2.1.1) from by rw [f 98 (by omega)]; exact hT t ht, q1, Option.bind_some, nI_1]
    · exact (c1 j hj (by omega)).eq (q2 _ (by omega))
    · by_cases e : j = t
      · subst e; exact q3
      · exact (c2 j (by omega)).eq (q2 _ (by omega))
  · rintro n ⟨x, M1⟩ ⟨e1, f, c1, c2⟩
    dsimp only at e1 f c1 c2
    subst e1
    exact ⟨M1, rfl, f, c2⟩
theorem plan_w {mc : Mem} {K : KX} {h : Nat} (kx : Int32 → Mem → Option Mem) (I : CF mc K) (hs : ¬ mc 0 17 = 0) (hh : h < 40) (B : ∀ t, t < 8 → BP mc K t (h * K.1.1)) : ∃ M', F9_planCoins_h45 kx FU (nI h) 0 mc = kx (nI h) M' ∧ FC mc M' ∧ CF M' K ∧ M' 0 17 = mc 0 17 ∧ ∀ t, t < 8 → BP M' K t ((h + 1) * K.1.1) := by
  have h8 := I.1.w8
  have n8 := I.1.n8
  refine lpF (fun n (s : Int32 × Mem) => F9_planCoins_h45 kx n (nI h) s.1 s.2) (fun i s => s.1 = nI i ∧ FC mc s.2 ∧ CF s.2 K ∧ s.2 0 17 = mc 0 17 ∧ ∀ t, t < 8 → BP s.2 K t (h * K.1.1 + i)) (fun r => ∃ M', r = kx (nI h) M' ∧ FC mc M' ∧ CF M' K ∧ M' 0 17 = mc 0 17 ∧ ∀ t, t < 8 → BP M' K t ((h + 1) * K.1.1)) K.1.1 (by omega) ?_ ?_ (0, mc) ⟨rfl, FC.refl _, I, rfl, B⟩
  · rintro n w ⟨x, M1⟩ hw ⟨e1, f, I1, g, b⟩
    dsimp only at e1 f I1 g b
    subst e1
    left
    obtain ⟨M2, q1, q2, q3, q4⟩ := c_tally I1 hh hw
    have I2 : CF M2 K := I1.ft q2 q3
    have g2 : M2 0 17 = mc 0 17 := by rw [q2 0 (by omega) (by omega)]; exact g
    obtain ⟨M3, p1, p2, p3⟩ := offers (F9_planCoins_b93 (F9_planCoins_h45 kx n) kx) n8 hw q4 (fun t ht => (b t ht).eq (q2 _ (by omega) (by omega)))
    refine ⟨(nI (w + 1), M3), ?_, rfl, (f.trans q2.fc).trans (FC.of p2 (by omega)), I2.f1 p2 (by rw [g2]; exact hs), ?_, p3⟩
    · show F9_planCoins_p45 _ kx (nI h) (nI w) M1 = _
      unfold F9_planCoins_p45
      rw [I1.1.1.1.2.1, if_neg (nI_ge hw (by omega)), q1, Option.bind_some, p1]
      unfold F9_planCoins_b93
      rw [nI_1]
    · dsimp only
      rw [p2 0 (by omega)]; exact g2
  · rintro n ⟨x, M1⟩ ⟨e1, f, I1, g, b⟩
    dsimp only at e1 f I1 g b
    subst e1
    refine ⟨M1, ?_, f, I1, g, fun t ht => ?_⟩
    · show F9_planCoins_p45 _ kx (nI h) (nI K.1.1) M1 = _
      unfold F9_planCoins_p45
      rw [I1.1.1.1.2.1, if_pos (nI_le (Nat.le_refl _) (by omega))]
    · rw [Nat.succ_mul]; exact b t ht
theorem c_plan {mc : Mem} {K : KX} (I : CI mc K) : ∃ mc', F9_planCoins mc = some mc' ∧ FC mc mc' ∧ CI mc' K ∧ BC mc' K := by
  unfold F9_planCoins
  by_cases z : mc 0 17 = 0
  · rw [if_pos z]
    exact ⟨mc, rfl, FC.refl _, I, I.2.2 z⟩
  · rw [if_neg z]
    obtain ⟨M, r1, r2, r3, -, r5⟩ := f9_refresh I
    rw [r1, Option.bind_some]
    refine lpF (fun n (s : Int32 × Mem) => F9_planCoins_h14 F9_planCoins_b35 n s.1 s.2) (fun i s => s.1 = nI i ∧ FI 100 108 M s.2 ∧ ∀ t, t < i → BP s.2 K t 0) (fun r => ∃ mc', r = some mc' ∧ FC mc mc' ∧ CI mc' K ∧ BC mc' K) 8 (by decide) ?_ ?_ (0, M) ⟨rfl, FI.refl _ _ _, fun t ht => by omega⟩
    · rintro n t ⟨x, M1⟩ ht ⟨e1, f, c⟩
      dsimp only at e1 f c
      subst e1
      left
      have g : FI (100 + t) (100 + t + 1) M1 (mset (mset (mset M1 (100 + t) 0 (-1)) (100 + t) 1 (-1)) (100 + t) 2 (-1)) := (((FI.refl _ _ _).set _ _ _ (by omega)).set _ _ _ (by omega)).set _ _ _ (by omega)
      refine ⟨(nI (t + 1), mset (mset (mset M1 (100 + t) 0 (-1)) (100 + t) 1 (-1)) (100 + t) 2 (-1)), ?_, rfl, f.trans (g.mono (by omega) (by omega)), fun j hj => ?_⟩
      · show F9_planCoins_p14 _ _ (nI t) M1 = _
        unfold F9_planCoins_p14 F0_clear
        rw [if_neg (show ¬ (8 : Int32) ≤ nI t from nI_ge (b := 8) ht (by decide)), ckI ht (by decide), nI_clamp (show t < 2 ^ 31 by omega), Option.bind_some, nI_1, Nat.one_mul]
      · by_cases e : j = t
        · subst e
          refine ⟨?_, ?_, ?_⟩
          · dsimp only; rw [mset_o (by decide), mset_o (by decide), mset_s]; rfl
          · dsimp only; rw [mset_o (by decide), mset_s]; rfl
          · dsimp only; rw [mset_s]; rfl
        · exact (c j (by omega)).eq (g _ (by omega))
    · rintro n ⟨x, M1⟩ ⟨e1, f, c⟩
      dsimp only at e1 f c
      subst e1
      have s1 : ¬ M 0 17 = 0 := by rw [r5]; exact z
      have I1 : CF M1 K := r3.f1 f s1
      have s2 : ¬ M1 0 17 = 0 := by rw [f 0 (by omega)]; exact s1
      have fc1 : FC mc M1 := r2.trans (FC.of f (by omega))
      show ∃ mc', F9_planCoins_h37 F9_planCoins_b105 FU 0 M1 = some mc' ∧ _
      refine lpF (fun n (s : Int32 × Mem) => F9_planCoins_h37 F9_planCoins_b105 n s.1 s.2) (fun h s => s.1 = nI h ∧ FC mc s.2 ∧ CF s.2 K ∧ s.2 0 17 = M1 0 17 ∧ ∀ t, t < 8 → BP s.2 K t (h * K.1.1)) (fun r => ∃ mc', r = some mc' ∧ FC mc mc' ∧ CI mc' K ∧ BC mc' K) 40 (by decide) ?_ ?_ (0, M1) ⟨rfl, fc1, I1, rfl, fun t ht => by rw [Nat.zero_mul]; exact c t ht⟩
      · rintro n h ⟨x, M2⟩ hh ⟨e1, f2, I2, g2, b2⟩
        dsimp only at e1 f2 I2 g2 b2
        subst e1
        left
        obtain ⟨M3, q1, q2, q3, q4, q5⟩ := plan_w (F9_planCoins_b99 (F9_planCoins_h37 F9_planCoins_b105 n) F9_planCoins_b105) I2 (by rw [g2]; exact s2) hh b2
        refine ⟨(nI (h + 1), M3), ?_, rfl, f2.trans q2, q3, q4.trans g2, q5⟩
        show F9_planCoins_p37 _ _ (nI h) M2 = _
        unfold F9_planCoins_p37
        rw [if_neg (show ¬ (40 : Int32) ≤ nI h from nI_ge (b := 40) hh (by decide)), q1]
        unfold F9_planCoins_b99
        rw [nI_1]
      · rintro n ⟨x, M2⟩ ⟨e1, f2, I2, g2, b2⟩
        dsimp only at e1 f2 I2 g2 b2
        subst e1
        have fm : FI 0 1 M2 (mset M2 0 17 0) := (FI.refl 0 1 M2).set 0 17 0 (by omega)
        have hB : BC (mset M2 0 17 0) K := fun t ht => by
          rw [fm (100 + t) (by omega)]
          exact b2 t ht
        have fc2 : FC M2 (mset M2 0 17 0) := ⟨fun k h1 _ => fm k (by omega), fun i _ h2 => mset_o h2⟩
        refine ⟨mset M2 0 17 0, rfl, f2.trans fc2, ⟨I2.1.fc fc2, fun _ => I2.2.1.ag I2.1.n8 (fun k h1 _ => fm k (by omega)), fun _ => hB⟩, hB⟩
def aTossV (K : KX) (v1 v2 : Int32) : Int32 := if 0 ≤ v1 ∧ v1 < 8 then (if 0 ≤ v2 ∧ v2 < 3 then aToss K v1.toNatClampNeg v2 else -2) else -2
theorem c_toss {mc : Mem} {K : KX} (I : CI mc K) (v1 v2 : Int32) : ∃ mc', F9_toss v1 v2 mc = some (aTossV K v1 v2, mc') ∧ FC mc mc' ∧ CI mc' K := by
  unfold F9_toss aTossV
  simp only [f9_b]
  by_cases c1 : 0 ≤ v1 ∧ v1 < 8
  · by_cases c2 : 0 ≤ v2 ∧ v2 < 3
    · simp only [if_pos c1, if_pos c2]
      obtain ⟨t, ht, rfl⟩ := i_of (b := 8) (by decide) c1
      obtain ⟨j, hj, rfl⟩ := i_of (b := 3) (by decide) c2
      obtain ⟨M, r1, r2, r3, r4⟩ := c_plan I
      obtain ⟨b0, b1, b2⟩ := r4 t ht
      refine ⟨M, ?_, r2, r3⟩
      rw [r1, Option.bind_some, nI_clamp (show t < 2 ^ 31 by omega), ckI ht (by decide), ckI ht (by decide), ckI ht (by decide), Nat.one_mul, b0, b1, b2]
      rcases (show j = 0 ∨ j = 1 ∨ j = 2 by omega) with rfl | rfl | rfl
      · rw [if_pos (show nI 0 = 0 from rfl)]; rfl
      · rw [if_neg (show ¬ nI 1 = 0 by decide), if_pos (show nI 1 = 1 from rfl)]; rfl
      · rw [if_neg (show ¬ nI 2 = 0 by decide), if_neg (show ¬ nI 2 = 1 by decide)]; rfl
    · simp only [if_pos c1, if_neg c2]
      exact ⟨mc, rfl, FC.refl mc, I⟩
  · simp only [if_neg c1]
    exact ⟨mc, rfl, FC.refl mc, I⟩
