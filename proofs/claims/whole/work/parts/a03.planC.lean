/-! the class: tell, iron, open -/
def allB (p : Nat → Bool) : Nat → Bool
  | 0 => true
  | n + 1 => allB p n && p n
theorem allB_s (p : Nat → Bool) (n : Nat) : allB p (n + 1) = (allB p n && p n) := rfl
theorem allB_f {p : Nat → Bool} {n j : Nat} (h : p j = false) : j < n → allB p n = false := by
  induction n with
  | zero => intro z; omega
  | succ n ih =>
    intro z
    rw [allB_s]
    by_cases e : j = n
    · subst e; rw [h, Bool.and_false]
    · rw [ih (by omega), Bool.false_and]
theorem allB_congr {p q : Nat → Bool} {n : Nat} (h : ∀ j, j < n → p j = q j) : allB p n = allB q n := by
  induction n with
  | zero => rfl
  | succ n ih => rw [allB_s, allB_s, ih (fun j hj => h j (by omega)), h n (by omega)]
def overS (S : KS) (w : Nat) : KS := (S.1, w, S.2.2)
def buckS (S : KS) (b : Nat) : KS := (S.1, S.2.1, b, S.2.2.2)
theorem KO.over {S : KS} (l : KO S) {w : Nat} (h : w < 8) : KO (overS S w) := ⟨l.1, h, l.2.2⟩
theorem KO.buck {S : KS} (l : KO S) {b : Nat} (h : b < 2) : KO (buckS S b) := ⟨l.1, l.2.1, h, l.2.2.2⟩
def tellG (K : KX) (p k w : Nat) : Option Nat := fhS K.1 (H0 K) (overS (K.2.2.1.2.1 p) w) k
def aTellOf (K : KX) (p k : Nat) (v : Int32) : Int32 := if v = 0 then en (argF (tellG K p k) K.1.1) else en (minF (tellG K p k) K.1.1)
def aTell (K : KX) (v1 v2 v3 : Int32) : Int32 := if 0 ≤ v1 ∧ v1 < nI K.2.2.1.1 then (if 0 ≤ v2 ∧ v2 < 8 then (if 0 ≤ v3 ∧ v3 < 2 then aTellOf K v1.toNatClampNeg v2.toNatClampNeg v3 else -2) else -2) else -2
theorem c_tell {mc : Mem} {K : KX} (I : CI mc K) (v1 v2 v3 : Int32) : ∃ mc', F9_tell v1 v2 v3 mc = some (aTell K v1 v2 v3, mc') ∧ FC mc mc' ∧ CI mc' K := by
  have n8 := I.1.n8
  have h8 := I.1.w8
  unfold F9_tell aTell
  rw [I.1.2.2.1.2.1]
  simp only [f9_b]
  by_cases c1 : 0 ≤ v1 ∧ v1 < nI K.2.2.1.1
  · by_cases c2 : 0 ≤ v2 ∧ v2 < 8
    · by_cases c3 : 0 ≤ v3 ∧ v3 < 2
      · simp only [if_pos c1, if_pos c2, if_pos c3]
        obtain ⟨M, r1, r2, r3, -, -⟩ := f9_refresh I
        obtain ⟨p, hp, rfl⟩ := i_of (by omega) c1
        obtain ⟨k, hk, rfl⟩ := i_of (b := 8) (by decide) c2
        rw [r1, Option.bind_some, nI_clamp (show p < 2 ^ 31 by omega), nI_clamp (show k < 2 ^ 31 by omega)]
        obtain ⟨⟨a1, a2, a3, a4, -⟩, ko⟩ := r3.1.2.2.1.2.2 p hp
        have glt : ∀ i j, tellG K p k i = some j → j < 40 := fun i j h => fh_lt h
        suffices h : ∃ mc', F9_tell_h47 (F9_tell_b133 (nI p) (nI k) v3) (nI p) (nI k) v3 FU (-1) (-1) 0 M = some (aTellOf K p k v3, mc') ∧ FI 92 97 M mc' by
          obtain ⟨mc', q1, q2⟩ := h
          exact ⟨mc', q1, r2.trans (FC.of q2 (by omega)), (r3.fi (q2.mono (by omega) (by omega))).ci⟩
        refine lpF (fun n (s : Int32 × Int32 × Int32 × Mem) => F9_tell_h47 (F9_tell_b133 (nI p) (nI k) v3) (nI p) (nI k) v3 n s.1 s.2.1 s.2.2.1 s.2.2.2) (fun w s => s.1 = en (argF (tellG K p k) w) ∧ s.2.1 = en (minF (tellG K p k) w) ∧ s.2.2.1 = nI w ∧ FI 92 97 M s.2.2.2) (fun r => ∃ mc', r = some (aTellOf K p k v3, mc') ∧ FI 92 97 M mc') K.1.1 (by omega) ?_ ?_ (-1, -1, 0, M) ⟨rfl, rfl, rfl, FI.refl _ _ _⟩
        · rintro n w ⟨x, y, z, M1⟩ hw ⟨e1, e2, e3, f⟩
          dsimp only at e1 e2 e3 f
          subst e1 e2 e3
          left
          obtain ⟨M2, q1, q2, q3⟩ := f4_follow (q := 92) (p := p) (S := overS (K.2.2.1.2.1 p) w) (r3.1.1.1.fi f (by omega)) (r3.1.1.2.fi f (by omega)) (r3.2.1.1.fi f (by omega)) (by omega) (by omega) (by omega) (by omega) (by rw [f 12 (by omega)]; exact a1) (by rw [f 15 (by omega)]; exact a4) (ko.over (show w < 8 by omega))
          refine ⟨(en (argF (tellG K p k) (w + 1)), en (minF (tellG K p k) (w + 1)), nI (w + 1), M2), ?_, rfl, rfl, rfl, f.trans q2⟩
          show F9_tell_p47 _ _ _ _ _ (en (argF (tellG K p k) w)) (en (minF (tellG K p k) w)) (nI w) M1 = _
          unfold F9_tell_p47 F9_tell_b119
          unfold F9_tell_b127
          rw [show M1 6 4 = nI K.1.1 from (r3.1.1.1.fi f (by omega)).2.1, if_neg (nI_ge hw (by omega)), ckI (show p < 8 by omega) (by decide), nI_clamp (show p < 2 ^ 31 by omega), show M1 14 p = nI (K.2.2.1.2.1 p).2.2.1 from by rw [f 14 (by omega)]; exact a3]
          have q1' : F4_follow 92 6 34 11 (nI p) (nI w) (nI (K.2.2.1.2.1 p).2.2.1) M1 = some M2 := q1
          rw [q1', Option.bind_some, f4_first q3 (ko.over (show w < 8 by omega)) h8 hk, Option.bind_some, nI_1 w, argF_s, minF_s]
          rw [show fhS K.1 (H0 K) (overS (K.2.2.1.2.1 p) w) k = tellG K p k w from rfl]
          cases c : tellG K p k w with
          | none => rw [if_pos (show en none = -1 from rfl)]
          | some h =>
            have hh := glt _ _ c
            rw [if_neg (show ¬ en (some h) = -1 from nI_ne1 (by omega))]
            cases d : minF (tellG K p k) w with
            | none => rw [if_pos (show en none = -1 from rfl)]; rfl
            | some b =>
              have hb := minF_lt (c := 40) glt d
              rw [if_neg (show ¬ en (some b) = -1 from nI_ne1 (by omega))]
              simp only [en, leI (show b < 2 ^ 31 by omega) (show h < 2 ^ 31 by omega)]
              by_cases e : b ≤ h
              · rw [if_pos e, if_neg (by omega), if_neg (by omega)]
              · rw [if_neg e, if_pos (by omega), if_pos (by omega)]
        · rintro n ⟨x, y, z, M1⟩ ⟨e1, e2, e3, f⟩
          dsimp only at e1 e2 e3 f
          subst e1 e2 e3
          refine ⟨M1, ?_, f⟩
          show F9_tell_p47 _ _ _ _ _ (en (argF (tellG K p k) K.1.1)) (en (minF (tellG K p k) K.1.1)) (nI K.1.1) M1 = _
          unfold F9_tell_p47 F9_tell_b133 aTellOf
          rw [show M1 6 4 = nI K.1.1 from (r3.1.1.1.fi f (by omega)).2.1, if_pos (nI_le (Nat.le_refl _) (by omega))]
          split <;> rfl
      · simp only [if_pos c1, if_pos c2, if_neg c3]
        exact ⟨mc, rfl, FC.refl mc, I⟩
    · simp only [if_pos c1, if_neg c2]
      exact ⟨mc, rfl, FC.refl mc, I⟩
  · simp only [if_neg c1]
    exact ⟨mc, rfl, FC.refl mc, I⟩
def ironS (SS : Nat → KS) (p q : Nat) : KS := if q = p then buckS (SS q) 0 else SS q
def ironN (K : KX) (p : Nat) : Nat := cntN (fun q => goneS K.1 (H0 K) (ironS K.2.2.1.2.1 p q)) K.2.2.1.1
def aIronOf (K : KX) (v : Int32) : Int32 := if v = 0 then en (argF (fun p => some (ironN K p)) K.2.2.1.1) else en (minF (fun p => some (ironN K p)) K.2.2.1.1)
def aIron (K : KX) (v : Int32) : Int32 := if 0 ≤ v ∧ v < 2 then aIronOf K v else -2
theorem tb_less : ∀ N, N < 256 → ∀ p, p < 8 → nI N &&& (((1 : Int32) <<< (nI p &&& (31 : Int32))) ^^^ (-1 : Int32)) = nI (N &&& (255 - 2 ^ p)) := by decide +kernel
theorem tb_lesst : ∀ p, p < 8 → ∀ i, i < 8 → (255 - 2 ^ p).testBit i = !(i == p) := by decide +kernel
theorem cnt_tb {N : Nat} {g : Nat → Bool} (h : ∀ i, i < 8 → N.testBit i = g i) : cntN (fun i => N.testBit i) 8 = cntN g 8 := cntN_congr h
theorem cnt_ext (g : Nat → Bool) {n : Nat} (h : ∀ i, n ≤ i → g i = false) : ∀ m, n ≤ m → cntN g m = cntN g n := by
  intro m
  induction m with
  | zero => intro z; have : n = 0 := by omega
            subst this; rfl
  | succ m ih =>
    intro z
    by_cases e : n = m + 1
    · subst e; rfl
    · rw [cnt_s, ih (by omega), h m (by omega)]; rfl
theorem bits_less (g : Nat → Bool) {n p : Nat} (hn : n ≤ 8) (hp : p < 8) : F6_bitCount_0f7a4 (nI (bitsN g n) &&& (((1 : Int32) <<< (nI p &&& (31 : Int32))) ^^^ (-1 : Int32))) = some (nI (cntN (fun q => g q && !(q == p)) n)) := by
  have hb := bits_256 g hn
  rw [tb_less _ hb p hp, tb_cnt _ (Nat.lt_of_le_of_lt Nat.and_le_left hb)]
  congr 2
  rw [cnt_tb (g := fun q => decide (q < n) && (g q && !(q == p))) (fun i hi => ?_), cnt_ext (n := n) _ (fun i hi => by rw [decide_eq_false (by omega)]; rfl) 8 hn]
  · exact cntN_congr (fun j hj => by rw [decide_eq_true hj]; rfl)
  · rw [Nat.testBit_and, tb_lesst p hp i hi]
    by_cases e : i < n
    · rw [bitsN_test g n i e, decide_eq_true e]; rfl
    · rw [Nat.testBit_lt_two_pow (Nat.lt_of_lt_of_le (bitsN_lt g n) (Nat.pow_le_pow_right (by decide) (by omega))), decide_eq_false e]; rfl
theorem cnt_split (f : Nat → Bool) {n p : Nat} (hp : p < n) : cntN f n = cntN (fun q => f q && !(q == p)) n + b2n (f p) := by
  induction n with
  | zero => omega
  | succ n ih =>
    rw [cnt_s, cnt_s]
    by_cases e : p = n
    · subst e
      have : cntN (fun q => f q && !(q == p)) p = cntN f p := cntN_congr (fun j hj => by rw [beqf (show ¬ j = p by omega)]; simp)
      rw [this]; simp [b2n]
    · rw [ih (by omega), beqf (show ¬ n = p from fun z => e z.symm)]; simp; omega
theorem c_iron {mc : Mem} {K : KX} (I : CI mc K) (v : Int32) : ∃ mc', F9_iron v mc = some (aIron K v, mc') ∧ FC mc mc' ∧ CI mc' K := by
  have n8 := I.1.n8
  unfold F9_iron aIron
  rw [f9_b]
  by_cases c : 0 ≤ v ∧ v < 2
  · rw [if_pos c, if_pos c]
    obtain ⟨M, r1, r2, r3, -⟩ := c_gone I
    rw [r1, Option.bind_some]
    dsimp only
    have gle : ∀ p, ironN K p ≤ 8 := fun p => Nat.le_trans (cntN_le _ _) n8
    have glt : ∀ i j, (fun p => some (ironN K p)) i = some j → j < 9 := fun i j h => by cases h; have := gle i; omega
    suffices h : ∃ mc', F9_iron_h24 (F9_iron_b127 v) v FU (aGone K) (-1) (-1) 0 M = some (aIronOf K v, mc') ∧ FI 92 97 M mc' by
      obtain ⟨mc', q1, q2⟩ := h
      exact ⟨mc', q1, r2.trans (FC.of q2 (by omega)), (r3.fi (q2.mono (by omega) (by omega))).ci⟩
    refine lpF (fun n (s : Int32 × Int32 × Int32 × Mem) => F9_iron_h24 (F9_iron_b127 v) v n (aGone K) s.1 s.2.1 s.2.2.1 s.2.2.2) (fun w s => s.1 = en (argF (fun p => some (ironN K p)) w) ∧ s.2.1 = en (minF (fun p => some (ironN K p)) w) ∧ s.2.2.1 = nI w ∧ FI 92 97 M s.2.2.2) (fun r => ∃ mc', r = some (aIronOf K v, mc') ∧ FI 92 97 M mc') K.2.2.1.1 (by omega) ?_ ?_ (-1, -1, 0, M) ⟨rfl, rfl, rfl, FI.refl _ _ _⟩
    · rintro n p ⟨x, y, z, M1⟩ hp ⟨e1, e2, e3, f⟩
      dsimp only at e1 e2 e3 f
      subst e1 e2 e3
      left
      obtain ⟨⟨a1, a2, a3, a4, -⟩, ko⟩ := r3.1.2.2.1.2.2 p hp
      obtain ⟨M2, q1, q2, q3⟩ := f4_follow (q := 92) (p := p) (S := buckS (K.2.2.1.2.1 p) 0) (r3.1.1.1.fi f (by omega)) (r3.1.1.2.fi f (by omega)) (r3.2.1.1.fi f (by omega)) (by omega) (by omega) (by omega) (by omega) (by rw [f 12 (by omega)]; exact a1) (by rw [f 15 (by omega)]; exact a4) (ko.buck (show 0 < 2 by omega))
      have q1' : F4_follow 92 6 34 11 (nI p) (nI (K.2.2.1.2.1 p).2.1) 0 M1 = some M2 := q1
      have hN : ironN K p = cntN (fun q => goneS K.1 (H0 K) (K.2.2.1.2.1 q) && !(q == p)) K.2.2.1.1 + b2n (goneS K.1 (H0 K) (buckS (K.2.2.1.2.1 p) 0)) := by
        unfold ironN
        rw [cnt_split _ hp]
        congr 1
        · refine cntN_congr (fun j hj => ?_)
          unfold ironS
          by_cases e : j = p
          · subst e; simp
          · rw [if_neg e]
        · unfold ironS; rw [if_pos rfl]
      refine ⟨(en (argF (fun p => some (ironN K p)) (p + 1)), en (minF (fun p => some (ironN K p)) (p + 1)), nI (p + 1), M2), ?_, rfl, rfl, rfl, f.trans q2⟩
      show F9_iron_p24 _ _ _ (aGone K) (en (argF (fun p => some (ironN K p)) p)) (en (minF (fun p => some (ironN K p)) p)) (nI p) M1 = _
      have hb : ∀ s1, s1 = b2i (goneS K.1 (H0 K) (buckS (K.2.2.1.2.1 p) 0)) → F9_iron_b98 (F9_iron_h24 (F9_iron_b127 v) v n) (F9_iron_b127 v) v (aGone K) (en (argF (fun p => some (ironN K p)) p)) (en (minF (fun p => some (ironN K p)) p)) (nI p) (nI (cntN (fun q => goneS K.1 (H0 K) (K.2.2.1.2.1 q) && !(q == p)) K.2.2.1.1)) s1 M2 = F9_iron_h24 (F9_iron_b127 v) v n (aGone K) (en (argF (fun p => some (ironN K p)) (p + 1))) (en (minF (fun p => some (ironN K p)) (p + 1))) (nI (p + 1)) M2 := by
        rintro s1 rfl
        unfold F9_iron_b98 F9_iron_b114
        unfold F9_iron_b121
        rw [← b2n_i, nI_add, ← hN, nI_1 p, argF_s, minF_s]
        dsimp only
        have hg := gle p
        cases d : minF (fun p => some (ironN K p)) p with
        | none => rw [if_pos (show en none = -1 from rfl)]; rfl
        | some b =>
          have hb := minF_lt (c := 9) glt d
          rw [if_neg (show ¬ en (some b) = -1 from nI_ne1 (by omega))]
          simp only [en, leI (show b < 2 ^ 31 by omega) (show ironN K p < 2 ^ 31 by omega)]
          by_cases e : b ≤ ironN K p
          · rw [if_pos e, if_neg (by omega), if_neg (by omega)]
          · rw [if_neg e, if_pos (by omega), if_pos (by omega)]
      unfold F9_iron_p24
      rw [show M1 11 5 = nI K.2.2.1.1 from by rw [f 11 (by omega)]; exact r3.1.2.2.1.2.1, if_neg (nI_ge hp (by omega)), ckI (show p < 8 by omega) (by decide), nI_clamp (show p < 2 ^ 31 by omega), show M1 13 p = nI (K.2.2.1.2.1 p).2.1 from by rw [f 13 (by omega)]; exact a2, q1', Option.bind_some]
      rw [show F6_bitCount_0f7a4 (aGone K &&& (((1 : Int32) <<< (nI p &&& (31 : Int32))) ^^^ (-1 : Int32))) = _ from bits_less _ n8 (by omega), Option.bind_some, f4_gone q3 (ko.buck (show 0 < 2 by omega)).l64, Option.bind_some]
      cases hgg : goneS K.1 (H0 K) (buckS (K.2.2.1.2.1 p) 0) with
      | false => rw [if_pos (show b2i false = 0 from rfl)]; exact hb 0 (by rw [hgg]; rfl)
      | true => rw [if_neg (show ¬ b2i true = 0 by decide)]; exact hb 1 (by rw [hgg]; rfl)
    · rintro n ⟨x, y, z, M1⟩ ⟨e1, e2, e3, f⟩
      dsimp only at e1 e2 e3 f
      subst e1 e2 e3
      refine ⟨M1, ?_, f⟩
      show F9_iron_p24 _ _ _ (aGone K) (en (argF (fun p => some (ironN K p)) K.2.2.1.1)) (en (minF (fun p => some (ironN K p)) K.2.2.1.1)) (nI K.2.2.1.1) M1 = _
      unfold F9_iron_p24 F9_iron_b127 aIronOf
      rw [show M1 11 5 = nI K.2.2.1.1 from by rw [f 11 (by omega)]; exact r3.1.2.2.1.2.1, if_pos (nI_le (Nat.le_refl _) (by omega))]
      split <;> rfl
  · rw [if_neg c, if_neg c]
    exact ⟨mc, rfl, FC.refl mc, I⟩
