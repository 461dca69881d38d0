/-! the reference: chance, all heard -/
theorem sumN_s (f : Nat → Nat) (n : Nat) : sumN f (n + 1) = sumN f n + f n := rfl
theorem sumN_front (f : Nat → Nat) (n : Nat) : sumN f (n + 1) = f 0 + sumN (fun i => f (i + 1)) n := by
  induction n with
  | zero => show 0 + f 0 = f 0 + 0; omega
  | succ n ih => rw [sumN_s, ih, sumN_s]; omega
theorem sumN_rev (n : Nat) : ∀ f : Nat → Nat, sumN (fun i => f (n - 1 - i)) n = sumN f n := by
  induction n with
  | zero => intro f; rfl
  | succ n ih =>
    intro f
    rw [sumN_front, sumN_s, show n + 1 - 1 - 0 = n by omega, ← ih f, Nat.add_comm]
    congr 1
    exact sumN_congr (fun i hi => by rw [show n + 1 - 1 - (i + 1) = n - 1 - i by omega])
theorem cnt_not (p : Nat → Bool) (n : Nat) : cntN (fun i => !(p i)) n + cntN p n = n := by
  induction n with
  | zero => rfl
  | succ n ih =>
    rw [cnt_s, cnt_s]
    cases p n <;> simp [b2n] <;> omega
def wtR (c n m : Nat) : Nat := c ^ (n - cntN (fun i => m.testBit i) n) * (16 - c) ^ cntN (fun i => m.testBit i) n
def chR (K : KX) (c p t m : Nat) : Nat := if hrS K.1 (HK K.2.1.1 K.2.1.2 (fun i => !(m.testBit i))) (K.2.2.1.2.1 p) t then wtR c K.2.1.2 m else 0
theorem chR_eq (K : KX) (c p t : Nat) {m : Nat} (hm : m < 2 ^ K.2.1.2) : chR K c p t m = chT K c p t (2 ^ K.2.1.2 - 1 - m) := by
  have hb : ∀ i, i < K.2.1.2 → (2 ^ K.2.1.2 - 1 - m).testBit i = !(m.testBit i) := fun i hi => by
    rw [show 2 ^ K.2.1.2 - 1 - m = 2 ^ K.2.1.2 - (m + 1) by omega, Nat.testBit_two_pow_sub_succ hm, decide_eq_true hi, Bool.true_and]
  unfold chR chT
  rw [HK_congr (on := fun i => (2 ^ K.2.1.2 - 1 - m).testBit i) (on' := fun i => !(m.testBit i)) hb]
  have h1 : cntN (fun i => (2 ^ K.2.1.2 - 1 - m).testBit i) K.2.1.2 = K.2.1.2 - cntN (fun i => m.testBit i) K.2.1.2 := by
    rw [cntN_congr (p := fun i => (2 ^ K.2.1.2 - 1 - m).testBit i) (q := fun i => !(m.testBit i)) hb]
    have := cnt_not (fun i => m.testBit i) K.2.1.2
    omega
  have h2 := cntN_le (fun i => m.testBit i) K.2.1.2
  unfold wtR wtN
  rw [h1, show K.2.1.2 - (K.2.1.2 - cntN (fun i => m.testBit i) K.2.1.2) = cntN (fun i => m.testBit i) K.2.1.2 by omega]
theorem chR_sum (K : KX) (c p t : Nat) : sumN (chR K c p t) (2 ^ K.2.1.2) = chN K c p t := by
  unfold chN
  rw [← sumN_rev (2 ^ K.2.1.2) (chT K c p t)]
  exact sumN_congr (fun m hm => chR_eq K c p t hm)
theorem gcd_step (a b : Nat) : Nat.gcd a b = Nat.gcd b (a % b) := by rw [Nat.gcd_comm a b, Nat.gcd_rec b a, Nat.gcd_comm]
theorem gcd_loop (kx : Int64 → Option Int64) (v0 v2 : Int64) (v4 : Int32) : ∀ (k a b n : Nat), a < 2 ^ 63 → b < 2 ^ 63 → b < 2 ^ k → 2 * k + 1 ≤ n → F10_part_h6 kx v0 v2 v4 n (lN a) (lN b) = kx (lN (Nat.gcd a b)) := by
  have zero : ∀ a n, a < 2 ^ 63 → 1 ≤ n → F10_part_h6 kx v0 v2 v4 n (lN a) (lN 0) = kx (lN a) := by
    intro a n ha hn
    obtain ⟨n', rfl⟩ : ∃ n', n = n' + 1 := ⟨n - 1, by omega⟩
    show F10_part_p6 _ _ _ _ _ _ _ = _
    unfold F10_part_p6
    rw [if_pos (show lg_cmp (lN 0) 0 = 0 by rw [lgc_eq]; rfl)]
  have step : ∀ a b n, a < 2 ^ 63 → b < 2 ^ 63 → 0 < b → F10_part_h6 kx v0 v2 v4 (n + 1) (lN a) (lN b) = F10_part_h6 kx v0 v2 v4 n (lN b) (lN (a % b)) := by
    intro a b n ha hb h0
    have hne : ¬ lN b = 0 := fun z => by
      have := (pk_lEQ hb (show 0 < 2 ^ 63 by decide)).mp z
      omega
    show F10_part_p6 _ _ _ _ _ _ _ = _
    unfold F10_part_p6 nzL
    rw [if_neg (show ¬ lg_cmp (lN b) 0 = 0 by rw [lgc_eq]; exact hne), if_neg hne, show jremL (lN a) (lN b) = lN (a % b) from pk_lRem ha h0 hb]
  intro k
  induction k with
  | zero =>
    intro a b n ha hb h1 h2
    have : b = 0 := by rw [Nat.pow_zero] at h1; omega
    subst this
    rw [zero a n ha (by omega), Nat.gcd_zero_right]
  | succ k ih =>
    intro a b n ha hb h1 h2
    by_cases z : b = 0
    · subst z
      rw [zero a n ha (by omega), Nat.gcd_zero_right]
    · obtain ⟨n1, rfl⟩ : ∃ n1, n = n1 + 1 := ⟨n - 1, by omega⟩
      have hr := Nat.mod_lt a (show 0 < b by omega)
      rw [step a b n1 ha hb (by omega), gcd_step a b]
      by_cases y : a % b = 0
      · rw [y, zero b n1 hb (by omega), Nat.gcd_zero_right]
      · obtain ⟨n2, rfl⟩ : ∃ n2, n1 = n2 + 1 := ⟨n1 - 1, by omega⟩
        have hr2 := Nat.mod_lt b (show 0 < a % b by omega)
        have hd := Nat.div_add_mod b (a % b)
        have h1d : 1 ≤ b / (a % b) := (Nat.one_le_div_iff (by omega)).mpr (by omega)
        have hm : a % b ≤ a % b * (b / (a % b)) := Nat.le_mul_of_pos_right _ h1d
        rw [step b (a % b) n2 hb (by omega) (by omega), gcd_step b (a % b)]
        refine ih _ _ _ (by omega) (by omega) ?_ (by omega)
        rw [Nat.pow_succ] at h1
        omega
theorem r_part {A B : Nat} (v : Int32) (hA : A < 2 ^ 63) (hB : B < 2 ^ 33) (h0 : 0 < B) : F10_part (lN A) (lN B) v = some (aChOf A B v) := by
  unfold F10_part
  rw [gcd_loop _ _ _ _ 33 A B FU hA (by omega) hB (Nat.le_of_lt (FU_lt (by decide)))]
  have hg : 0 < Nat.gcd A B := Nat.gcd_pos_of_pos_right A h0
  have hg2 : Nat.gcd A B ≤ B := Nat.gcd_le_right A h0
  have hne : ¬ lN (Nat.gcd A B) = 0 := fun z => by
    have := (pk_lEQ (show Nat.gcd A B < 2 ^ 63 by omega) (show 0 < 2 ^ 63 by decide)).mp z
    omega
  unfold F10_part_b31 nzL aChOf
  rw [if_neg hne, if_neg hne, pk_lDiv hA hg (by omega), pk_lDiv (by omega) hg (by omega)]
  split <;> rfl
theorem tb_below : ∀ n, n < 9 → (1 : Int64) <<< (((4 : Int32) * nI n).toInt64 &&& (63 : Int64)) = lN (16 ^ n) := by decide
theorem r_weight {c m : Nat} {E : Nat} {M : Mem} (kx : Int64 → Int32 → Int64 → Mem → Option (Int64 × Mem)) (v2 v3 v4 : Int32) (a5 : Int64) (x : Nat) (hc : c ≤ 16) (hE : E ≤ 8) (hM : M 0 11 = nI E) (hm : m < 2 ^ 31) : F10_chanceOf_h48 kx (nI c) v2 v3 v4 FU a5 (nI m) (lN x) 0 M = kx a5 (nI m) (lN (x * wtR c E m)) M := by
  have h := up_all (fun n a i => F10_chanceOf_h48 kx (nI c) v2 v3 v4 n a5 (nI m) a i M) (fun i => lN (x * wtR c i m)) E (kx a5 (nI m) (lN (x * wtR c E m)) M) (by omega) ?_ ?_
  · have h0 : x * wtR c 0 m = x := by unfold wtR; show x * (c ^ 0 * (16 - c) ^ 0) = x; simp
    rw [h0] at h
    exact h
  · intro n
    show F10_chanceOf_p48 _ _ _ _ _ _ _ _ _ _ _ = _
    unfold F10_chanceOf_p48
    rw [hM, if_pos (nI_le (Nat.le_refl _) (by omega))]
  · intro n i hi
    show F10_chanceOf_p48 _ _ _ _ _ _ _ _ _ _ _ = _
    unfold F10_chanceOf_p48 F10_chanceOf_b79
    have hcl := cntN_le (fun i => m.testBit i) i
    rw [hM, if_neg (nI_ge hi (by omega)), f10_isIn hm (by omega), Option.bind_some, nI_l (show c < 2 ^ 31 by omega), show (16 : Int32) - nI c = nI (16 - c) from nI_sub (a := 16) hc, nI_l (show 16 - c < 2 ^ 31 by omega), nI_1, lN_mul, lN_mul]
    have hcs : cntN (fun i => m.testBit i) (i + 1) = cntN (fun i => m.testBit i) i + b2n (m.testBit i) := rfl
    cases hb : m.testBit i with
    | false =>
      rw [hb] at hcs
      rw [if_pos (show b2i false = 0 from rfl)]
      have : x * wtR c i m * c = x * wtR c (i + 1) m := by
        unfold wtR
        rw [show cntN (fun i => m.testBit i) (i + 1) = cntN (fun i => m.testBit i) i from hcs, show i + 1 - cntN (fun i => m.testBit i) i = (i - cntN (fun i => m.testBit i) i) + 1 by omega, Nat.pow_succ]
        simp only [Nat.mul_assoc, Nat.mul_comm, Nat.mul_left_comm]
      rw [this]
    | true =>
      rw [hb] at hcs
      rw [if_neg (show ¬ b2i true = 0 by decide)]
      have : x * wtR c i m * (16 - c) = x * wtR c (i + 1) m := by
        unfold wtR
        rw [show cntN (fun i => m.testBit i) (i + 1) = cntN (fun i => m.testBit i) i + 1 from hcs, show i + 1 - (cntN (fun i => m.testBit i) i + 1) = i - cntN (fun i => m.testBit i) i by omega, Nat.pow_succ]
        simp only [Nat.mul_assoc, Nat.mul_comm, Nat.mul_left_comm]
      rw [this]
theorem r_chanceOf {mm : Mem} {K : KX} (R : RB mm K) {c p t : Nat} (hc : c ≤ 16) (hp : p < K.2.2.1.1) (ht : t < 8) (v : Int32) : ∃ mm', F10_chanceOf (nI c) (nI p) (nI t) v mm = some (aChOf (chN K c p t) (16 ^ K.2.1.2) v, mm') ∧ FrB mm mm' := by
  have e8 := R.e8
  have n8 := R.n8
  have h8 := R.w8
  have ko := R.2.2.2.1.2.1 p hp
  have h2 : 2 ^ K.2.1.2 ≤ 2 ^ 8 := Nat.pow_le_pow_right (by decide) e8
  unfold F10_chanceOf
  refine lpF (fun n (s : Int64 × Int32 × Mem) => F10_chanceOf_h6 (F10_chanceOf_b101 (nI c) (nI p) (nI t) v) (nI c) (nI p) (nI t) v n s.1 s.2.1 s.2.2) (fun m s => s.1 = lN (sumN (chR K c p t) m) ∧ s.2.1 = nI m ∧ FrZ 13 mm s.2.2) (fun r => ∃ mm', r = some (aChOf (chN K c p t) (16 ^ K.2.1.2) v, mm') ∧ FrB mm mm') (2 ^ K.2.1.2) (by omega) ?_ ?_ (0, 0, mm) ⟨rfl, rfl, FrZ.refl _ _⟩
  · rintro n m ⟨x, y, M⟩ hm ⟨e1, e2, f⟩
    dsimp only at e1 e2 f
    subst e1 e2
    left
    have f0 : FrZ 13 mm (mset M 0 13 (nI m)) := f.set _
    have w0 : MW (mset M 0 13 (nI m)) K.1.1 K.1.2.1 K.1.2.2 := R.1.congr (f0.2 7 (by decide) (by decide) (by decide)) (f0.1 7 (by omega))
    have H0' : MH (mset M 0 13 (nI m)) (HK K.2.1.1 K.2.1.2 (fun i => !(m.testBit i))) := by
      refine mh_of ?_ ((f0.2 14 (by decide) (by decide) (by decide)).trans R.2.2.1.2)
      obtain ⟨a, b, -, d⟩ := R.2.1
      refine ⟨a, (f0.2 11 (by decide) (by decide) (by decide)).trans b, ⟨m, by omega, mset_s _ _ _ _, fun i _ => rfl⟩, ?_⟩
      rw [f0.1 9 (by omega)]; exact d
    have sp : SP (mset M 0 13 (nI m)) p (K.2.2.1.2.1 p) := (R.2.2.2.1.1.2.2 p hp).congr (f0.1 8 (by omega))
    obtain ⟨M2, q1, q2, q3, q4⟩ := f10_livesOne (show p < 8 by omega) w0 H0' sp
    have fin := f10_heardAt q4 (show p < 8 by omega) ko h8 ht
    have f2 : FrZ 13 mm M2 := f0.frA (FrA.ofL q2)
    have m11 : M2 0 11 = nI K.2.1.2 := (f2.2 11 (by decide) (by decide) (by decide)).trans R.2.1.2.1
    refine ⟨(lN (sumN (chR K c p t) (m + 1)), nI (m + 1), M2), ?_, rfl, rfl, f2⟩
    show F10_chanceOf_p6 _ _ (nI c) (nI p) (nI t) v (lN (sumN (chR K c p t) m)) (nI m) M = _
    unfold F10_chanceOf_p6 F10_chanceOf_b43
    simp only [lt]
    rw [show M 0 11 = nI K.2.1.2 from (f.2 11 (by decide) (by decide) (by decide)).trans R.2.1.2.1, shl_n e8, if_neg (nI_ge hm (by omega)), q1, Option.bind_some, fin, Option.bind_some]
    simp only [fh_en]
    rw [show (0 : Int64) = lN 0 from rfl, show (1 : Int64) = lN 1 from rfl, r_weight _ _ _ _ _ 0 hc e8 m11 (by omega), r_weight _ _ _ _ _ 1 hc e8 m11 (by omega)]
    unfold F10_chanceOf_b88
    rw [lN_add, lN_add, nI_1, Nat.zero_mul, Nat.one_mul, sumN_s]
    show _ = F10_chanceOf_h6 _ _ _ _ _ _ (lN (sumN (chR K c p t) m + (if hrS K.1 (HK K.2.1.1 K.2.1.2 (fun i => !(m.testBit i))) (K.2.2.1.2.1 p) t then wtR c K.2.1.2 m else 0))) _ _
    cases hrS K.1 (HK K.2.1.1 K.2.1.2 (fun i => !(m.testBit i))) (K.2.2.1.2.1 p) t with
    | false => rw [if_pos rfl]; rfl
    | true => rw [if_neg (by decide)]; rfl
  · rintro n ⟨x, y, M⟩ ⟨e1, e2, f⟩
    dsimp only at e1 e2 f
    refine ⟨mset M 0 13 0, ?_, f.back R.2.2.1.1⟩
    show F10_chanceOf_p6 _ _ (nI c) (nI p) (nI t) v x y M = _
    unfold F10_chanceOf_p6 F10_chanceOf_b101
    simp only [lt]
    have m11 : M 0 11 = nI K.2.1.2 := (f.2 11 (by decide) (by decide) (by decide)).trans R.2.1.2.1
    have hA := chN_lt (K := K) (c := c) (p := p) (t := t) hc e8
    have hB := pow16 e8
    rw [m11, shl_n e8, e1, e2, if_pos (nI_le (Nat.le_refl _) (by omega)), show (mset M 0 13 0) 0 11 = nI K.2.1.2 from by rw [mset_o (by decide)]; exact m11, tb_below _ (by omega), chR_sum, r_part v (by omega) (by omega) (show 0 < 16 ^ K.2.1.2 by rw [show (16 : Nat) = 2 ^ 4 from rfl, ← Nat.pow_mul]; exact Nat.two_pow_pos _)]
    rfl
theorem sumN_add (f g : Nat → Nat) (n : Nat) : sumN (fun i => f i + g i) n = sumN f n + sumN g n := by
  induction n with
  | zero => rfl
  | succ n ih => rw [sumN_s, sumN_s, sumN_s, ih]; omega
theorem sumN_swap (f : Nat → Nat → Nat) (m : Nat) : ∀ n, sumN (fun h => sumN (fun p => f p h) n) m = sumN (fun p => sumN (fun h => f p h) m) n := by
  intro n
  induction n with
  | zero =>
    show sumN (fun _ => 0) m = 0
    induction m with
    | zero => rfl
    | succ m ih => rw [sumN_s, ih]
  | succ n ih =>
    rw [sumN_s, ← ih, ← sumN_add]
    exact sumN_congr (fun i _ => rfl)
theorem r_all {mm : Mem} {K : KX} (R : RLv mm K.1 (H0 K) K.2.2.1.1 K.2.2.1.2.1) : F10_allHeard mm = some (nI (timesN K)) := by
  obtain ⟨h8, n8, hn, l, L⟩ := R
  have inn : ∀ (kx : Int32 → Int32 → Option Int32) (a h : Nat), h < 40 → F10_allHeard_h12 kx mm FU (nI a) (nI h) 0 = kx (nI (a + sumN (fun p => b2n (hrdS K.1 (H0 K) (K.2.2.1.2.1 p) h)) K.2.2.1.1)) (nI h) := by
    intro kx a h hh
    refine up_all (fun n x i => F10_allHeard_h12 kx mm n x (nI h) i) (fun i => nI (a + sumN (fun p => b2n (hrdS K.1 (H0 K) (K.2.2.1.2.1 p) h)) i)) K.2.2.1.1 _ (by omega) ?_ ?_
    · intro n
      show F10_allHeard_p12 _ _ _ _ _ _ = _
      unfold F10_allHeard_p12
      rw [hn, if_pos (nI_le (Nat.le_refl _) (by omega))]
    · intro n p hp
      obtain ⟨x1, x2, x3⟩ := ix8 hh (show p < 8 by omega)
      have f4 := ((L p hp).2 h hh).2.2.2
      show F10_allHeard_p12 _ _ _ _ _ _ = _
      unfold F10_allHeard_p12
      rw [hn, if_neg (nI_ge hp (by omega)), x1, ckI x3 (by decide), x2, f4, ← b2n_i, nI_add, nI_1, sumN_s, Nat.add_assoc]
  have hs : timesN K = sumN (fun h => sumN (fun p => b2n (hrdS K.1 (H0 K) (K.2.2.1.2.1 p) h)) K.2.2.1.1) 40 := (sumN_swap (fun p h => b2n (hrdS K.1 (H0 K) (K.2.2.1.2.1 p) h)) 40 K.2.2.1.1).symm
  rw [hs]
  unfold F10_allHeard
  refine up_all (fun n a i => F10_allHeard_h4 mm n a i) (fun i => nI (sumN (fun h => sumN (fun p => b2n (hrdS K.1 (H0 K) (K.2.2.1.2.1 p) h)) K.2.2.1.1) i)) 40 _ (by decide) ?_ ?_
  · intro n
    show F10_allHeard_p4 _ _ _ _ = _
    unfold F10_allHeard_p4
    rw [if_pos (show (40 : Int32) ≤ nI 40 by decide)]
  · intro n h hh
    show F10_allHeard_p4 _ _ _ _ = _
    unfold F10_allHeard_p4
    rw [if_neg (show ¬ (40 : Int32) ≤ nI h from nI_ge (b := 40) hh (by decide)), inn _ _ h hh]
    unfold F10_allHeard_b40
    rw [nI_1, sumN_s]
