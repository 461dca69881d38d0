/-! the class: chance -/
theorem lgc_eq (x y : Int64) : (lg_cmp x y = 0) = (x = y) := by
  apply propext
  unfold lg_cmp
  by_cases h : x > y
  · rw [if_pos h]
    refine ⟨fun z => absurd z (by decide), fun z => ?_⟩
    subst z
    have : x.toInt < x.toInt := Int64.lt_iff_toInt_lt.mp h
    omega
  · rw [if_neg h]
    by_cases h2 : x = y
    · rw [if_pos h2]; exact ⟨fun _ => h2, fun _ => rfl⟩
    · rw [if_neg h2]; exact ⟨fun z => absurd z (by decide), fun z => absurd z h2⟩
theorem anyF_congr {p q : Nat → Bool} {n : Nat} (h : ∀ i, i < n → p i = q i) : anyF p 0 n = anyF q 0 n := by
  induction n with
  | zero => rfl
  | succ n ih => rw [anyF_s, anyF_s, ih (fun i hi => h i (by omega)), h n (by omega)]
theorem HK_congr {E : EV} {n : Nat} {on on' : Nat → Bool} (h : ∀ i, i < n → on i = on' i) : HK E n on = HK E n on' := by
  unfold HK covS coinS dryS
  have h1 : (fun x k => anyF (fun i => on i && isLd E x k i) 0 n) = fun x k => anyF (fun i => on' i && isLd E x k i) 0 n := by
    funext x k; exact anyF_congr (fun i hi => by rw [h i hi])
  have h2 : (fun x k => anyF (fun i => on i && isCn E x k i) 0 n) = fun x k => anyF (fun i => on' i && isCn E x k i) 0 n := by
    funext x k; exact anyF_congr (fun i hi => by rw [h i hi])
  have h3 : (fun x => anyF (fun i => on i && isDr E x i) 0 n) = fun x => anyF (fun i => on' i && isDr E x i) 0 n := by
    funext x; exact anyF_congr (fun i hi => by rw [h i hi])
  show ((fun x k => anyF (fun i => on i && isLd E x k i) 0 n), (fun x k => anyF (fun i => on i && isCn E x k i) 0 n), (fun x => anyF (fun i => on i && isDr E x i) 0 n)) = _
  rw [h1, h2, h3]
/-- the weight of those that are on, by c sixteenths each -/
def wtN (c n m : Nat) : Nat := c ^ cntN (fun i => m.testBit i) n * (16 - c) ^ (n - cntN (fun i => m.testBit i) n)
def chT (K : KX) (c p t m : Nat) : Nat := if hrS K.1 (HK K.2.1.1 K.2.1.2 (fun i => m.testBit i)) (K.2.2.1.2.1 p) t then wtN c K.2.1.2 m else 0
def chN (K : KX) (c p t : Nat) : Nat := sumN (chT K c p t) (2 ^ K.2.1.2)
def aChOf (A B : Nat) (v : Int32) : Int64 := if v = 0 then lN (A / Nat.gcd A B) else lN (B / Nat.gcd A B)
def aChance (K : KX) (v1 v2 v3 v4 : Int32) : Int64 := if 0 ≤ v1 ∧ v1 < 17 then (if 0 ≤ v2 ∧ v2 < nI K.2.2.1.1 then (if 0 ≤ v3 ∧ v3 < 8 then (if 0 ≤ v4 ∧ v4 < 2 then aChOf (chN K v1.toNatClampNeg v2.toNatClampNeg v3.toNatClampNeg) (16 ^ K.2.1.2) v4 else -9223372036854775806) else -9223372036854775806) else -9223372036854775806) else -9223372036854775806
theorem c_power {c n : Nat} (hn : n < 1000) : F9_power (lN c) (nI n) = some (lN (c ^ n)) := by
  unfold F9_power
  refine up_all (fun m a i => F9_power_h5 (lN c) (nI n) m a i) (fun i => lN (c ^ i)) n _ (by omega) ?_ ?_
  · intro m
    show F9_power_p5 _ _ _ _ _ = _
    unfold F9_power_p5
    rw [if_pos (nI_le (Nat.le_refl _) (by omega))]
  · intro m i hi
    show F9_power_p5 _ _ _ _ _ = _
    unfold F9_power_p5
    rw [if_neg (nI_ge hi (by omega)), lN_mul, nI_1, Nat.pow_succ]
theorem pow16 {n : Nat} (h : n ≤ 8) : 16 ^ n ≤ 2 ^ 32 := Nat.pow_le_pow_right (n := 16) (by decide) h
theorem wtN_le {c n m : Nat} (hc : c ≤ 16) (hn : n ≤ 8) : wtN c n m ≤ 2 ^ 32 := by
  unfold wtN
  have h1 := cntN_le (fun i => m.testBit i) n
  generalize cntN (fun i => m.testBit i) n = a at h1
  have h2 : c ^ a ≤ 16 ^ a := Nat.pow_le_pow_left hc a
  have h3 : (16 - c) ^ (n - a) ≤ 16 ^ (n - a) := Nat.pow_le_pow_left (by omega) _
  have h4 := Nat.mul_le_mul h2 h3
  rw [← Nat.pow_add, show a + (n - a) = n by omega] at h4
  exact Nat.le_trans h4 (pow16 hn)
theorem sum_step {f : Nat → Nat} {n : Nat} : lN (sumN f n) + lN (f n) = lN (sumN f (n + 1)) := lN_add _ _
theorem cnt_m {n m : Nat} (hn : n ≤ 8) (hm : m < 2 ^ n) : cntN (fun i => m.testBit i) 8 = cntN (fun i => m.testBit i) n := cnt_ext _ (fun i hi => Nat.testBit_lt_two_pow (Nat.lt_of_lt_of_le hm (Nat.pow_le_pow_right (by decide) hi))) 8 hn
theorem c_weight {mc : Mem} {K : KX} (C : CB mc K) {c p t : Nat} (hc : c ≤ 16) (hp : p < K.2.2.1.1) (ht : t < 8) : ∃ mc', F9_heardWeight (nI c) (nI p) (nI t) mc = some (lN (chN K c p t), mc') ∧ FI 79 100 mc mc' := by
  have e8 := C.e8
  have n8 := C.n8
  have h2 : 2 ^ K.2.1.2 ≤ 2 ^ 8 := Nat.pow_le_pow_right (by decide) e8
  unfold F9_heardWeight
  refine lpF (fun n (s : Int64 × Int32 × Mem) => F9_heardWeight_h6 (nI c) (nI p) (nI t) n s.1 s.2.1 s.2.2) (fun m s => s.1 = lN (sumN (chT K c p t) m) ∧ s.2.1 = nI m ∧ FI 79 100 mc s.2.2) (fun r => ∃ mc', r = some (lN (chN K c p t), mc') ∧ FI 79 100 mc mc') (2 ^ K.2.1.2) (by omega) ?_ ?_ (0, 0, mc) ⟨rfl, rfl, FI.refl _ _ _⟩
  · rintro n m ⟨x, y, M1⟩ hm ⟨e1, e2, f⟩
    dsimp only at e1 e2 f
    subst e1 e2
    left
    have C1 : CB M1 K := C.fc (FC.of f (by omega))
    have hcm := cnt_m e8 hm
    have hle := cntN_le (fun i => m.testBit i) K.2.1.2
    have hw := wtN_le (m := m) hc e8
    have hw2 : c ^ cntN (fun i => m.testBit i) K.2.1.2 * (16 - c) ^ (K.2.1.2 - cntN (fun i => m.testBit i) K.2.1.2) = wtN c K.2.1.2 m := rfl
    have he : F9_heardWeight_h6 (nI c) (nI p) (nI t) (n + 1) (lN (sumN (chT K c p t) m)) (nI m) M1 = (if wtN c K.2.1.2 m = 0 then F9_heardWeight_h6 (nI c) (nI p) (nI t) n (lN (sumN (chT K c p t) m)) (nI (m + 1)) M1 else ((F3_fill 84 17 (nI m) M1).bind (fun q12 => (ck (nI p) 8 (ck (nI p) 8 ((F4_follow 92 6 84 11 (nI p) (q12 13 p) (q12 14 p) q12).bind (fun q15 => ((F4_isHeardAt 92 (nI t) q15).bind (fun q16 => (if q16 = (0 : Int32) then (F9_heardWeight_b135 (F9_heardWeight_h6 (nI c) (nI p) (nI t) n) (nI c) (nI p) (nI t)) (nI m) (lN (sumN (chT K c p t) m)) (0 : Int64) q15 else (F9_heardWeight_b135 (F9_heardWeight_h6 (nI c) (nI p) (nI t) n) (nI c) (nI p) (nI t)) (nI m) (lN (sumN (chT K c p t) m)) (lN (wtN c K.2.1.2 m)) q15)))))))))) := by
      show F9_heardWeight_p6 _ _ _ _ (lN (sumN (chT K c p t) m)) (nI m) M1 = _
      unfold F9_heardWeight_p6
      rw [C1.2.1.2.1]
      have h1 : (1 : Int32) <<< (nI K.2.1.2 &&& (31 : Int32)) = nI (2 ^ K.2.1.2) := by
        have := pk_shlN (n := 1) (nI K.2.1.2 &&& (31 : Int32)) K.2.1.2 (sh_l _ (by omega)) (by omega)
        rw [Nat.one_mul] at this
        exact this
      rw [h1, if_neg (nI_ge hm (by omega)), tb_cnt m (by omega), Option.bind_some, hcm, nI_l (show c < 2 ^ 31 by omega), c_power (by omega), Option.bind_some, show (16 : Int32) - nI c = nI (16 - c) from nI_sub (a := 16) hc, nI_l (show 16 - c < 2 ^ 31 by omega), nI_sub hle, c_power (by omega), Option.bind_some, lN_mul, hw2]
      simp only [lgc_eq]
      rw [show (0 : Int64) = lN 0 from rfl]
      simp only [pk_lEQ (show wtN c K.2.1.2 m < 2 ^ 63 by omega) (show 0 < 2 ^ 63 by decide)]
      unfold F9_heardWeight_b138
      rw [nI_1 m, nI_clamp (show p < 2 ^ 31 by omega)]
    by_cases hz : wtN c K.2.1.2 m = 0
    · rw [if_pos hz] at he
      refine ⟨(lN (sumN (chT K c p t) (m + 1)), nI (m + 1), M1), ?_, rfl, rfl, f⟩
      have : sumN (chT K c p t) (m + 1) = sumN (chT K c p t) m := by
        show sumN (chT K c p t) m + chT K c p t m = _
        unfold chT
        rw [hz]; split <;> rfl
      rw [this]
      exact he
    · rw [if_neg hz] at he
      obtain ⟨M2, r1, r2, r3⟩ := f3_fill (u := 84) (on := fun i => m.testBit i) C1.2.1 (by omega) (mask := nI m) (fun i hi => bit_nI (by omega) (by omega))
      have C2 : CB M2 K := C1.fc (FC.of r2 (by omega))
      obtain ⟨⟨a1, a2, a3, a4, -⟩, ko⟩ := C2.2.2.1.2.2 p hp
      obtain ⟨M3, q1, q2, q3⟩ := f4_follow (q := 92) (p := p) (S := K.2.2.1.2.1 p) C2.1.1 C2.1.2 r3 (by omega) (by omega) (by omega) (by omega) a1 a4 ko
      refine ⟨(lN (sumN (chT K c p t) (m + 1)), nI (m + 1), M3), ?_, rfl, rfl, (f.trans (r2.mono (by omega) (by omega))).trans (q2.mono (by omega) (by omega))⟩
      show F9_heardWeight_h6 (nI c) (nI p) (nI t) (n + 1) (lN (sumN (chT K c p t) m)) (nI m) M1 = _
      rw [he, r1, Option.bind_some, ckI (show p < 8 by omega) (by decide), ckI (show p < 8 by omega) (by decide), a2, a3, q1, Option.bind_some, f4_heard q3 ht, Option.bind_some]
      unfold F9_heardWeight_b135 F9_heardWeight_b138
      rw [nI_1 m, ← sum_step, show chT K c p t m = if hrS K.1 (HK K.2.1.1 K.2.1.2 (fun i => m.testBit i)) (K.2.2.1.2.1 p) t then wtN c K.2.1.2 m else 0 from rfl]
      cases hrS K.1 (HK K.2.1.1 K.2.1.2 (fun i => m.testBit i)) (K.2.2.1.2.1 p) t <;> rfl
  · rintro n ⟨x, y, M1⟩ ⟨e1, e2, f⟩
    dsimp only at e1 e2 f
    have C1 : CB M1 K := C.fc (FC.of f (by omega))
    refine ⟨M1, ?_, f⟩
    show F9_heardWeight_p6 _ _ _ _ x y M1 = _
    unfold F9_heardWeight_p6
    rw [C1.2.1.2.1, e1, e2]
    have h1 : (1 : Int32) <<< (nI K.2.1.2 &&& (31 : Int32)) = nI (2 ^ K.2.1.2) := by
      have := pk_shlN (n := 1) (nI K.2.1.2 &&& (31 : Int32)) K.2.1.2 (sh_l _ (by omega)) (by omega)
      rw [Nat.one_mul] at this
      exact this
    rw [h1, if_pos (nI_le (Nat.le_refl _) (by omega))]
    rfl
theorem chN_lt {K : KX} {c p t : Nat} (hc : c ≤ 16) (hn : K.2.1.2 ≤ 8) : chN K c p t < 2 ^ 42 := by
  have h2 : 2 ^ K.2.1.2 ≤ 2 ^ 8 := Nat.pow_le_pow_right (by decide) hn
  have := sumN_le (f := chT K c p t) (c := 2 ^ 32) (n := 2 ^ K.2.1.2) (fun i _ => by
    unfold chT
    split
    · exact wtN_le hc hn
    · exact Nat.zero_le _)
  unfold chN
  have h3 : 2 ^ 32 * 2 ^ K.2.1.2 ≤ 2 ^ 32 * 2 ^ 8 := Nat.mul_le_mul_left _ h2
  omega
theorem gcd_odd {a e : Nat} (h : a % 2 = 1) : Nat.gcd a (2 ^ e) = 1 := by
  have : Nat.Coprime a (2 ^ e) := Nat.Coprime.pow_right e (by
    unfold Nat.Coprime
    rw [Nat.gcd_comm, Nat.gcd_rec, h]
    rfl)
  exact this
theorem half_loop {c p t : Nat} (v : Int32) (M : Mem) {A e : Nat} (hA : 0 < A) (hA2 : A < 2 ^ 42) (he : e ≤ 32) : F9_chance_h90 (F9_chance_b141 (nI c) (nI p) (nI t) v) (nI c) (nI p) (nI t) v FU (lN A) (lN (2 ^ e)) 0 M = some (aChOf A (2 ^ e) v, M) := by
  refine lpF (fun n (s : Int64 × Int64 × Int32) => F9_chance_h90 (F9_chance_b141 (nI c) (nI p) (nI t) v) (nI c) (nI p) (nI t) v n s.1 s.2.1 s.2.2 M) (fun j s => s.2.2 = nI j ∧ ∃ a d, d ≤ 32 ∧ j ≤ 32 ∧ e = d + j ∧ A = a * 2 ^ j ∧ s.1 = lN a ∧ s.2.1 = lN (2 ^ d)) (fun r => r = some (aChOf A (2 ^ e) v, M)) 32 (by decide) ?_ ?_ (lN A, lN (2 ^ e), 0) ⟨rfl, A, e, he, by omega, rfl, by omega, rfl, rfl⟩
  · rintro n j ⟨x, y, z⟩ hj ⟨e1, a, d, hd, hj2, h1, h2, e2, e3⟩
    dsimp only at e1 e2 e3
    subst e1 e2 e3
    have ha : a ≤ A := by rw [h2]; exact Nat.le_mul_of_pos_right a (Nat.two_pow_pos j)
    have hdd : 2 ^ d ≤ 2 ^ 32 := Nat.pow_le_pow_right (by decide) hd
    have hfin : a % 2 = 1 ∨ 2 ^ d % 2 = 1 → F9_chance_b141 (nI c) (nI p) (nI t) v (lN a) (lN (2 ^ d)) M = some (aChOf A (2 ^ e) v, M) := by
      intro h
      have hg : Nat.gcd a (2 ^ d) = 1 := by
        rcases h with h | h
        · exact gcd_odd h
        · cases d with
          | zero => rw [Nat.pow_zero, Nat.gcd_one_right]
          | succ d => rw [Nat.pow_succ] at h; omega
      have hG : Nat.gcd A (2 ^ e) = 2 ^ j := by rw [h2, h1, Nat.pow_add, Nat.gcd_mul_right, hg, Nat.one_mul]
      unfold F9_chance_b141 aChOf
      rw [hG]
      have q1 : A / 2 ^ j = a := by rw [h2]; exact Nat.mul_div_cancel a (Nat.two_pow_pos j)
      have q2 : 2 ^ e / 2 ^ j = 2 ^ d := by rw [h1, Nat.pow_add]; exact Nat.mul_div_cancel _ (Nat.two_pow_pos j)
      rw [q1, q2]
      split <;> rfl
    have r1 : jremL (lN a) 2 = lN (a % 2) := pk_lRem (b := 2) (by omega) (by decide) (by decide)
    have r2 : jremL (lN (2 ^ d)) 2 = lN (2 ^ d % 2) := pk_lRem (b := 2) (by omega) (by decide) (by decide)
    have z1 : (lN (a % 2) = 0) = (a % 2 = 0) := propext (pk_lEQ (b := 0) (by omega) (by decide))
    have z2 : (lN (2 ^ d % 2) = 0) = (2 ^ d % 2 = 0) := propext (pk_lEQ (b := 0) (by omega) (by decide))
    have hh : F9_chance_h90 (F9_chance_b141 (nI c) (nI p) (nI t) v) (nI c) (nI p) (nI t) v (n + 1) (lN a) (lN (2 ^ d)) (nI j) M = if a % 2 = 0 then (if 2 ^ d % 2 = 0 then F9_chance_h90 (F9_chance_b141 (nI c) (nI p) (nI t) v) (nI c) (nI p) (nI t) v n (lN (a / 2)) (lN (2 ^ d / 2)) (nI (j + 1)) M else F9_chance_b141 (nI c) (nI p) (nI t) v (lN a) (lN (2 ^ d)) M) else F9_chance_b141 (nI c) (nI p) (nI t) v (lN a) (lN (2 ^ d)) M := by
      show F9_chance_p90 _ _ _ _ _ _ (lN a) (lN (2 ^ d)) (nI j) M = _
      unfold F9_chance_p90
      rw [if_neg (show ¬ (32 : Int32) ≤ nI j from nI_ge (b := 32) hj (by decide)), r1, r2, show lN a / 2 = lN (a / 2) from pk_lDiv (b := 2) (by omega) (by decide) (by decide), show lN (2 ^ d) / 2 = lN (2 ^ d / 2) from pk_lDiv (b := 2) (by omega) (by decide) (by decide), nI_1]
      simp only [lgc_eq, z1, z2]
    by_cases c1 : a % 2 = 0
    · by_cases c2 : 2 ^ d % 2 = 0
      · left
        rw [if_pos c1, if_pos c2] at hh
        cases d with
        | zero => rw [Nat.pow_zero] at c2; omega
        | succ d =>
          have hp : 2 ^ (d + 1) / 2 = 2 ^ d := by rw [Nat.pow_succ]; exact Nat.mul_div_cancel _ (by decide)
          rw [hp] at hh
          refine ⟨(lN (a / 2), lN (2 ^ d), nI (j + 1)), hh, rfl, a / 2, d, by omega, by omega, by omega, ?_, rfl, rfl⟩
          rw [h2, Nat.pow_succ, show 2 ^ j * 2 = 2 * 2 ^ j from Nat.mul_comm _ _, ← Nat.mul_assoc, show a / 2 * 2 = a by omega]
      · right
        rw [if_pos c1, if_neg c2] at hh
        exact hh.trans (hfin (Or.inr (by omega)))
    · right
      rw [if_neg c1] at hh
      exact hh.trans (hfin (Or.inl (by omega)))
  · rintro n ⟨x, y, z⟩ ⟨e1, a, d, hd, hj2, h1, h2, e2, e3⟩
    dsimp only at e1 e2 e3
    have d0 : d = 0 := by omega
    subst d0
    show F9_chance_p90 _ _ _ _ _ _ x y z M = _
    unfold F9_chance_p90
    rw [e1, if_pos (show (32 : Int32) ≤ nI 32 from nI_le (a := 32) (Nat.le_refl _) (by decide)), e2, e3]
    have h1' : e = 32 := by omega
    have hG : Nat.gcd A (2 ^ e) = 2 ^ 32 := by rw [h2, h1', Nat.gcd_mul_left_left]
    unfold F9_chance_b141 aChOf
    rw [hG, h1', h2, Nat.mul_div_cancel a (Nat.two_pow_pos 32), Nat.div_self (Nat.two_pow_pos 32), Nat.pow_zero]
    split <;> rfl
theorem c_chance {mc : Mem} {K : KX} (I : CI mc K) (v1 v2 v3 v4 : Int32) : ∃ mc', F9_chance v1 v2 v3 v4 mc = some (aChance K v1 v2 v3 v4, mc') ∧ FC mc mc' ∧ CI mc' K := by
  have n8 := I.1.n8
  have e8 := I.1.e8
  unfold F9_chance aChance
  rw [I.1.2.2.1.2.1]
  simp only [f9_b]
  by_cases c1 : 0 ≤ v1 ∧ v1 < 17
  · by_cases c2 : 0 ≤ v2 ∧ v2 < nI K.2.2.1.1
    · by_cases c3 : 0 ≤ v3 ∧ v3 < 8
      · by_cases c4 : 0 ≤ v4 ∧ v4 < 2
        · simp only [if_pos c1, if_pos c2, if_pos c3, if_pos c4]
          obtain ⟨c, hc, rfl⟩ := i_of (b := 17) (by decide) c1
          obtain ⟨p, hp, rfl⟩ := i_of (by omega) c2
          obtain ⟨t, ht, rfl⟩ := i_of (b := 8) (by decide) c3
          obtain ⟨M, r1, r2⟩ := c_weight I.1 (show c ≤ 16 by omega) hp ht
          have I2 := I.fi r2
          refine ⟨M, ?_, FC.of r2 (by omega), I2⟩
          have hA := chN_lt (K := K) (c := c) (p := p) (t := t) (show c ≤ 16 by omega) e8
          rw [r1, Option.bind_some]
          dsimp only
          rw [I2.1.2.1.2.1, show (16 : Int64) = lN 16 from rfl, c_power (by omega), Option.bind_some, nI_clamp (show c < 2 ^ 31 by omega), nI_clamp (show p < 2 ^ 31 by omega), nI_clamp (show t < 2 ^ 31 by omega)]
          simp only [lgc_eq]
          have hz : (lN (chN K c p t) = 0) = (chN K c p t = 0) := propext (pk_lEQ (b := 0) (by omega) (by decide))
          simp only [hz]
          have h16 : 16 ^ K.2.1.2 = 2 ^ (4 * K.2.1.2) := by rw [Nat.pow_mul]
          by_cases z : chN K c p t = 0
          · rw [if_pos z, z]
            unfold aChOf
            rw [Nat.gcd_zero_left, Nat.zero_div, Nat.div_self (show 0 < 16 ^ K.2.1.2 by rw [h16]; exact Nat.two_pow_pos _)]
            split <;> rfl
          · rw [if_neg z, h16]
            exact half_loop v4 M (by omega) hA (by omega)
        · simp only [if_pos c1, if_pos c2, if_pos c3, if_neg c4]
          exact ⟨mc, rfl, FC.refl mc, I⟩
      · simp only [if_pos c1, if_pos c2, if_neg c3]
        exact ⟨mc, rfl, FC.refl mc, I⟩
    · simp only [if_pos c1, if_neg c2]
      exact ⟨mc, rfl, FC.refl mc, I⟩
  · simp only [if_neg c1]
    exact ⟨mc, rfl, FC.refl mc, I⟩
