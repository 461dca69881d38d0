/-! the class: one saying's path -/
theorem nI_or (a b : Nat) : nI a ||| nI b = nI (a ||| b) := Int32.toBitVec_inj.mp (by rw [Int32.toBitVec_or]; exact BitVec.ofNat_or.symm)
/-- eight bits -/
def BT (x : Int32) (f : Nat → Bool) : Prop := ∃ N, N < 256 ∧ x = nI N ∧ ∀ k, k < 8 → N.testBit k = f k
theorem bt_0 : BT 0 (fun _ => false) := ⟨0, by decide, rfl, fun k _ => Nat.zero_testBit k⟩
theorem bt_test {x : Int32} {f : Nat → Bool} (h : BT x f) {k : Nat} (hk : k < 8) : (x >>> (nI k &&& (31 : Int32))) &&& (1 : Int32) = b2i (f k) := by
  obtain ⟨N, h1, rfl, h2⟩ := h
  rw [bit_nI (by omega) (by omega), h2 k hk]
theorem one_shl {k : Nat} (hk : k < 8) : (1 : Int32) <<< (nI k &&& (31 : Int32)) = nI (2 ^ k) := by
  have h2 : 2 ^ k < 2 ^ 8 := Nat.pow_lt_pow_right (by decide) hk
  have := pk_shlN (n := 1) (nI k &&& (31 : Int32)) k (sh_l k (by omega)) (by omega)
  rw [Nat.one_mul] at this
  exact this
theorem bt_or {x : Int32} {f : Nat → Bool} (h : BT x f) {k : Nat} (hk : k < 8) : BT (x ||| ((1 : Int32) <<< (nI k &&& (31 : Int32)))) (fun j => f j || j == k) := by
  obtain ⟨N, h1, rfl, h2⟩ := h
  rw [one_shl hk, nI_or]
  have h3 : 2 ^ k < 2 ^ 8 := Nat.pow_lt_pow_right (by decide) hk
  refine ⟨N ||| 2 ^ k, Nat.or_lt_two_pow (n := 8) h1 h3, rfl, fun j hj => ?_⟩
  rw [Nat.testBit_or, h2 j hj, Nat.testBit_two_pow]
  congr 1
  by_cases e : k = j
  · subst e; simp
  · rw [decide_eq_false e]; symm; simpa using fun z => e z.symm
theorem bt_cg {x : Int32} {f g : Nat → Bool} (h : BT x f) (e : ∀ k, k < 8 → f k = g k) : BT x g := by
  obtain ⟨N, h1, h2, h3⟩ := h
  exact ⟨N, h1, h2, fun k hk => (h3 k hk).trans (e k hk)⟩
/-- the state of the path at q -/
def CX (mc : Mem) (q : Nat) (X : ST) : Prop := mc q 5 = en X.1 ∧ mc q 7 = nI X.2.2.1 ∧ mc q 8 = nI X.2.2.2.1 ∧ mc q 9 = nI X.2.2.2.2
/-- only the ints of q named in p have changed -/
def FrQ (q : Nat) (p : Nat → Bool) (mc mc' : Mem) : Prop := (∀ k, k ≠ q → mc' k = mc k) ∧ ∀ i, p i = false → mc' q i = mc q i
theorem FrQ.refl (q : Nat) (p : Nat → Bool) (mc : Mem) : FrQ q p mc mc := ⟨fun _ _ => rfl, fun _ _ => rfl⟩
theorem FrQ.trans {q : Nat} {p : Nat → Bool} {a b c : Mem} (h : FrQ q p a b) (g : FrQ q p b c) : FrQ q p a c := ⟨fun k hk => (g.1 k hk).trans (h.1 k hk), fun i hi => (g.2 i hi).trans (h.2 i hi)⟩
theorem FrQ.set {q : Nat} {p : Nat → Bool} {a b : Mem} (h : FrQ q p a b) (i : Nat) (v : Int32) (hp : p i = true) : FrQ q p a (mset b q i v) := ⟨fun k hk => (mset_n hk).trans (h.1 k hk), fun j hj => by
  rw [mset_o (by rintro rfl; rw [hp] at hj; cases hj)]; exact h.2 j hj⟩
/-- what coming may change -/
def pCm (i : Nat) : Bool := i == 4 || i == 5 || i == 7 || i == 8 || i == 9
theorem come_b80 {M : Mem} {q h k a c f : Nat} {v2 v3 : Int32} {g : Nat → Bool} (hk : k < 8) (ha : a < 64) (h5 : M q 5 = nI k) (h7 : M q 7 = nI c) (h8 : M q 8 = nI f) (h9 : M q 9 = nI a) (b : BT (M q 4) g) : ∃ M', F4_come_b80 q (nI k) v2 v3 M = some M' ∧ FrQ q pCm M M' ∧ CX M' q (if a = 0 then (none, h, c, f, 0) else (some k, h, c, f, a)) ∧ BT (M' q 4) (fun j => g j || (!decide (a = 0) && j == k)) := by
  unfold F4_come_b80
  by_cases e : a = 0
  · subst e
    rw [if_pos (show M q 9 = 0 from h9), if_pos rfl]
    refine ⟨_, rfl, (FrQ.refl q _ M).set _ _ rfl, ⟨mset_s _ _ _ _, ?_, ?_, ?_⟩, ?_⟩
    · rw [mset_o (by decide)]; exact h7
    · rw [mset_o (by decide)]; exact h8
    · rw [mset_o (by decide)]; exact h9
    · rw [mset_o (by decide)]; exact bt_cg b (fun j _ => by simp)
  · rw [if_neg (show ¬ M q 9 = 0 from by rw [h9]; exact nI_ne0 (by omega) (by omega)), if_neg e]
    refine ⟨_, rfl, (FrQ.refl q _ M).set _ _ rfl, ⟨?_, ?_, ?_, ?_⟩, ?_⟩
    · rw [mset_o (by decide)]; exact h5
    · rw [mset_o (by decide)]; exact h7
    · rw [mset_o (by decide)]; exact h8
    · rw [mset_o (by decide)]; exact h9
    · rw [mset_s]; exact bt_cg (bt_or b hk) (fun j _ => by rw [decide_eq_false e]; rfl)
theorem come_b59 {M : Mem} {q h k a c f : Nat} {gl : Bool} {v3 : Int32} {g : Nat → Bool} (hk : k < 8) (ha : a < 64) (h5 : M q 5 = nI k) (h7 : M q 7 = nI c) (h8 : M q 8 = nI f) (h9 : M q 9 = nI a) (b : BT (M q 4) g) : ∃ M', F4_come_b59 q (nI k) (b2i gl) v3 M = some M' ∧ FrQ q pCm M M' ∧ CX M' q (if a - (if gl then 1 else 0) = 0 then (none, h, c, f, 0) else (some k, h, c, f, a - (if gl then 1 else 0))) ∧ BT (M' q 4) (fun j => g j || (!decide (a - (if gl then 1 else 0) = 0) && j == k)) := by
  unfold F4_come_b59
  cases gl with
  | false =>
    rw [if_pos (show b2i false = 0 from rfl)]
    exact come_b80 hk ha h5 h7 h8 h9 b
  | true =>
    rw [if_neg (show ¬ b2i true = 0 by decide)]
    by_cases e : a = 0
    · subst e
      rw [if_pos (show M q 9 ≤ 0 by rw [h9]; decide)]
      exact come_b80 hk ha h5 h7 h8 h9 b
    · rw [if_neg (show ¬ M q 9 ≤ 0 by rw [h9]; exact nI_nle (by omega) (by omega)), h9, show nI a - (1 : Int32) = nI (a - 1) from nI_sub (b := 1) (by omega)]
      obtain ⟨M', r1, r2, r3, r4⟩ := come_b80 (M := mset M q 9 (nI (a - 1))) (h := h) (a := a - 1) (v2 := b2i true) (v3 := v3) hk (by omega) (by rw [mset_o (by decide)]; exact h5) (by rw [mset_o (by decide)]; exact h7) (by rw [mset_o (by decide)]; exact h8) (mset_s _ _ _ _) (show BT ((mset M q 9 (nI (a - 1))) q 4) g by rw [mset_o (by decide)]; exact b)
      exact ⟨M', r1, ((FrQ.refl q _ M).set _ _ rfl).trans r2, r3, r4⟩
theorem f4_come {mc : Mem} {W : KW} {q h k : Nat} {X : ST} {wood : Bool} {g : Nat → Bool} (h8 : W.1 ≤ 8) (hk : k < W.1) (hh : h < 40) (Y : CX mc q X) (O : XO W.1 h X) (al : 1 ≤ X.2.2.2.2) (b : BT (mc q 4) g) : ∃ mc', F4_come q (nI k) (b2i (decide (W.2.1 k = 1))) (b2i wood) mc = some mc' ∧ FrQ q pCm mc mc' ∧ CX mc' q (comeS W wood h k X).1 ∧ BT (mc' q 4) (fun j => g j || ((comeS W wood h k X).2 && j == k)) := by
  obtain ⟨y1, y2, y3, y4⟩ := Y
  obtain ⟨-, o2, o3, o4, o5⟩ := O
  rw [comeS_1, comeS_2]
  have hd : (if decide (W.2.1 k = 1) = true then 1 else 0) = (if W.2.1 k = 1 then 1 else 0 : Nat) := by simp
  have e12 : nI X.2.2.1 + (1 : Int32) = nI (X.2.2.1 + 1) := nI_1 _
  have e13 : nI X.2.2.2.1 + (1 : Int32) = nI (X.2.2.2.1 + 1) := nI_1 _
  have e14 : nI X.2.2.2.2 - (1 : Int32) = nI (X.2.2.2.2 - 1) := nI_sub (b := 1) al
  have em : jrem (nI (X.2.2.1 + 1)) 2 = nI ((X.2.2.1 + 1) % 2) := jrI (d := 2) (by omega) (by decide) (by decide)
  have ez : (nI ((X.2.2.1 + 1) % 2) = 0) = ((X.2.2.1 + 1) % 2 = 0) := eqI (b := 0) (by omega) (by decide)
  have key : F4_come q (nI k) (b2i (decide (W.2.1 k = 1))) (b2i wood) mc = F4_come_b59 q (nI k) (b2i (decide (W.2.1 k = 1))) (b2i wood) (if losF wood X then mset (mset (mset (mset mc q 5 (nI k)) q 7 (nI (X.2.2.1 + 1))) q 8 (nI (X.2.2.2.1 + 1))) q 9 (nI (X.2.2.2.2 - 1)) else mset (mset mc q 5 (nI k)) q 7 (nI (X.2.2.1 + 1))) := by
    unfold F4_come
    rw [if_neg (nI_ne1 (show k < 2 ^ 31 by omega))]
    simp only [lt]
    rw [show (mset mc q 5 (nI k)) q 7 = nI X.2.2.1 from by rw [mset_o (by decide)]; exact y2, e12, mset_s, em]
    simp only [ez]
    rw [show (mset (mset mc q 5 (nI k)) q 7 (nI (X.2.2.1 + 1))) q 8 = nI X.2.2.2.1 from by rw [mset_o (by decide), mset_o (by decide)]; exact y3, e13]
    rw [show (mset (mset (mset mc q 5 (nI k)) q 7 (nI (X.2.2.1 + 1))) q 8 (nI (X.2.2.2.1 + 1))) q 9 = nI X.2.2.2.2 from by rw [mset_o (by decide), mset_o (by decide), mset_o (by decide)]; exact y4, e14]
    unfold losF
    cases wood with
    | false => rw [if_pos (show b2i false = 0 from rfl)]; simp
    | true =>
      rw [if_neg (show ¬ b2i true = 0 by decide)]
      by_cases c1 : (X.2.2.1 + 1) % 2 = 0
      · rw [if_pos c1, if_pos (by simp [c1])]
      · rw [if_neg c1, if_neg (by simp [c1])]
  rw [key]
  by_cases c : losF wood X = true
  · rw [if_pos c]
    obtain ⟨M', r1, r2, r3, r4⟩ := come_b59 (M := mset (mset (mset (mset mc q 5 (nI k)) q 7 (nI (X.2.2.1 + 1))) q 8 (nI (X.2.2.2.1 + 1))) q 9 (nI (X.2.2.2.2 - 1))) (h := h) (a := X.2.2.2.2 - 1) (c := X.2.2.1 + 1) (f := X.2.2.2.1 + 1) (gl := decide (W.2.1 k = 1)) (v3 := b2i wood) (g := g) (show k < 8 by omega) (by omega) (by rw [mset_o (by decide), mset_o (by decide), mset_o (by decide), mset_s]) (by rw [mset_o (by decide), mset_o (by decide), mset_s]) (by rw [mset_o (by decide), mset_s]) (mset_s _ _ _ _) (by rw [mset_o (by decide), mset_o (by decide), mset_o (by decide), mset_o (by decide)]; exact b)
    rw [hd] at r3 r4
    refine ⟨M', r1, (((((FrQ.refl q _ mc).set _ _ rfl).set _ _ rfl).set _ _ rfl).set _ _ rfl).trans r2, ?_, ?_⟩
    · unfold comL comF; simp only [if_pos c]; exact r3
    · unfold comL; simp only [if_pos c]; exact r4
  · rw [if_neg c]
    obtain ⟨M', r1, r2, r3, r4⟩ := come_b59 (M := mset (mset mc q 5 (nI k)) q 7 (nI (X.2.2.1 + 1))) (h := h) (a := X.2.2.2.2) (c := X.2.2.1 + 1) (f := X.2.2.2.1) (gl := decide (W.2.1 k = 1)) (v3 := b2i wood) (g := g) (show k < 8 by omega) (by omega) (by rw [mset_o (by decide), mset_s]) (mset_s _ _ _ _) (by rw [mset_o (by decide), mset_o (by decide)]; exact y3) (by rw [mset_o (by decide), mset_o (by decide)]; exact y4) (by rw [mset_o (by decide), mset_o (by decide)]; exact b)
    rw [hd] at r3 r4
    refine ⟨M', r1, (((FrQ.refl q _ mc).set _ _ rfl).set _ _ rfl).trans r2, ?_, ?_⟩
    · unfold comL comF; simp only [if_neg c]; exact r3
    · unfold comL; simp only [if_neg c]; exact r4
