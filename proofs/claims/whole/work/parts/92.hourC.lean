/-! the class: one hour of a path -/
/-- when the stay in the well ends -/
def DU (mc : Mem) (q : Nat) (st : Nat → Nat) (X : ST) : Prop := ∀ k, X.1 = some k → mc q 6 = nI (X.2.1 + stayS st k)
def stX (st : Nat → Nat) : Option Nat → Nat
  | none => 1
  | some k => stayS st k
theorem f8_stayX {mc : Mem} {v nw : Nat} {st ht : Nat → Nat} (C : CW mc v nw st ht) (o : Option Nat) (ho : ∀ k, o = some k → k < nw) : F8_stay v (en o) mc = some (nI (stX st o)) := by
  cases o with
  | none => unfold F8_stay F8_stay_b26; rw [if_pos (show en none < 0 by decide)]; rfl
  | some k => exact f8_stay C (ho k rfl)
/-- what coming to o makes of X -/
def comeO (W : KW) (wood : Bool) (h : Nat) (X : ST) : Option Nat → ST × Bool
  | none => (lossS X, false)
  | some i => comeS W wood h i X
theorem comeO_2 {W : KW} {wood : Bool} {h : Nat} {X : ST} (o : Option Nat) : ((comeO W wood h X o).1.1 = none ∧ (comeO W wood h X o).2 = false) ∨ ∃ i, o = some i ∧ (comeO W wood h X o).1.1 = some i ∧ (comeO W wood h X o).2 = true ∧ (comeO W wood h X o).1.2.1 = h := by
  cases o with
  | none => exact Or.inl ⟨rfl, rfl⟩
  | some i =>
    unfold comeO comeS
    by_cases e : comL W.2.1 wood i X = 0
    · left; dsimp only; rw [if_pos e]; exact ⟨rfl, rfl⟩
    · right; refine ⟨i, rfl, ?_⟩; dsimp only; rw [if_neg e]; exact ⟨rfl, rfl, rfl⟩
theorem f4_comeO {mc : Mem} {W : KW} {q h : Nat} {X : ST} {wood gl : Bool} {g : Nat → Bool} (h8 : W.1 ≤ 8) (o : Option Nat) (ho : ∀ k, o = some k → k < W.1 ∧ gl = decide (W.2.1 k = 1)) (hh : h < 40) (Y : CX mc q X) (O : XO W.1 h X) (al : 1 ≤ X.2.2.2.2) (b : BT (mc q 4) g) : ∃ mc', F4_come q (en o) (b2i gl) (b2i wood) mc = some mc' ∧ FrQ q pCm mc mc' ∧ CX mc' q (comeO W wood h X o).1 ∧ BT (mc' q 4) (fun j => g j || ((comeO W wood h X o).2 && (comeO W wood h X o).1.1 == some j)) := by
  cases o with
  | none =>
    unfold F4_come
    rw [if_pos (show en none = -1 from rfl)]
    obtain ⟨y1, y2, y3, y4⟩ := Y
    refine ⟨_, rfl, ((FrQ.refl q _ mc).set _ _ rfl).set _ _ rfl, ⟨?_, ?_, ?_, ?_⟩, ?_⟩
    · rw [mset_o (by decide), mset_s]; rfl
    · rw [mset_o (by decide), mset_o (by decide)]; exact y2
    · rw [mset_o (by decide), mset_o (by decide)]; exact y3
    · rw [mset_s]; rfl
    · rw [mset_o (by decide), mset_o (by decide)]
      exact bt_cg b (fun j _ => by show g j = (g j || (false && _)); simp)
  | some k =>
    obtain ⟨k1, rfl⟩ := ho k rfl
    obtain ⟨mc', r1, r2, r3, r4⟩ := f4_come (wood := wood) h8 k1 hh Y O al b
    refine ⟨mc', r1, r2, r3, bt_cg r4 (fun j _ => ?_)⟩
    show (g j || ((comeS W wood h k X).2 && j == k)) = (g j || ((comeS W wood h k X).2 && (comeS W wood h k X).1.1 == some j))
    unfold comeS
    by_cases e : comL W.2.1 wood k X = 0
    · rw [if_pos e]; simp
    · rw [if_neg e]
      show (g j || (true && j == k)) = (g j || (true && some k == some j))
      rw [beqc j k]; rfl
/-- one hour of the path at q: only its ints 4 to 9 and whether it was heard in hour h have changed -/
def FrS (q h : Nat) (M M' : Mem) : Prop := (∀ k, k ≠ q → k ≠ q + 4 → M' k = M k) ∧ ∀ i, i ≠ h → M' (q + 4) i = M (q + 4) i
theorem FrS.refl (q h : Nat) (M : Mem) : FrS q h M M := ⟨fun _ _ _ => rfl, fun _ _ => rfl⟩
theorem FrS.trans {q h : Nat} {a b c : Mem} (x : FrS q h a b) (y : FrS q h b c) : FrS q h a c := ⟨fun k h1 h2 => (y.1 k h1 h2).trans (x.1 k h1 h2), fun i hi => (y.2 i hi).trans (x.2 i hi)⟩
theorem FrS.of {q h : Nat} {p : Nat → Bool} {a b : Mem} (x : FrQ q p a b) : FrS q h a b := ⟨fun k h1 _ => x.1 k h1, fun i _ => by rw [x.1 (q + 4) (by omega)]⟩
theorem FrS.heard {q h : Nat} (a : Mem) (v : Int32) : FrS q h a (mset a (q + 4) h v) := ⟨fun k _ h2 => mset_n h2, fun i hi => mset_o hi⟩
theorem FrS.int {q h : Nat} (a : Mem) (i : Nat) (v : Int32) : FrS q h a (mset a q i v) := ⟨fun k h1 _ => mset_n h1, fun j _ => by rw [mset_n (by omega)]⟩
theorem FrS.fi {q h : Nat} {a b : Mem} (x : FrS q h a b) : FI q (q + 5) a b := fun k hk => x.1 k (by omega) (by omega)
/-- what an hour leaves for b224 -/
def HR (W : KW) (q h : Nat) (M : Mem) (g : Nat → Bool) (Z : ST × Bool) (M' : Mem) : Prop := FrS q h M M' ∧ CX M' q Z.1 ∧ DU M' q W.2.1 Z.1 ∧ BT (M' q 4) (fun j => g j || (Z.2 && Z.1.1 == some j)) ∧ M' (q + 4) h = b2i Z.2
theorem CX.heard {M : Mem} {q h : Nat} {X : ST} {v : Int32} (Y : CX M q X) : CX (mset M (q + 4) h v) q X := by
  unfold CX
  rw [mset_n (show q ≠ q + 4 by omega)]
  exact Y
theorem follow_181 {W : KW} {q v u s h : Nat} {X : ST} {g : Nat → Bool} {gl wood : Bool} {M : Mem} (kh : Int32 → Mem → Option Mem) (v4 v5 v6 : Int32) (C : CW M v W.1 W.2.1 W.2.2) (sv : v + 4 < q ∨ q + 4 < v) (hh : h < 40) (o : Option Nat) (ho : ∀ k, o = some k → k < W.1 ∧ gl = decide (W.2.1 k = 1)) (Y : CX M q X) (O : XO W.1 h X) (al : 1 ≤ X.2.2.2.2) (b : BT (M q 4) g) : ∃ M', F4_follow_b181 kh q v u s v4 v5 v6 (nI h) 1 q (en o) (b2i gl) (b2i wood) M = F4_follow_b224 kh q v u s v4 v5 v6 (nI h) M' ∧ HR W q h M g (comeO W wood h X o) M' := by
  obtain ⟨M1, r1, r2, r3, r4⟩ := f4_comeO (wood := wood) (gl := gl) C.1 o ho hh Y O al b
  have h8 := C.1
  generalize hZ : comeO W wood h X o = Z at r3 r4 ⊢
  have zz : (Z.1.1 = none ∧ Z.2 = false) ∨ ∃ i, i < W.1 ∧ Z.1.1 = some i ∧ Z.2 = true ∧ Z.1.2.1 = h := by
    rw [← hZ]
    rcases comeO_2 (W := W) (wood := wood) (h := h) (X := X) o with h1 | ⟨i, e0, h1⟩
    · exact Or.inl h1
    · exact Or.inr ⟨i, (ho i e0).1, h1⟩
  have f2 : FrS q h M (mset M1 (q + 4) h (b2i Z.2)) := (FrS.of r2).trans (FrS.heard M1 _)
  have C2 : CW (mset M1 (q + 4) h (b2i Z.2)) v W.1 W.2.1 W.2.2 := C.fi f2.fi (by omega)
  have z5 : (mset M1 (q + 4) h (b2i Z.2)) q 5 = en Z.1.1 := by rw [mset_n (by omega)]; exact r3.1
  have hst : F8_stay v (en Z.1.1) (mset M1 (q + 4) h (b2i Z.2)) = some (nI (stX W.2.1 Z.1.1)) := by
    refine f8_stayX C2 _ (fun k hk => ?_)
    rcases zz with ⟨e1, -⟩ | ⟨i, i1, i2, -⟩
    · rw [e1] at hk; cases hk
    · rw [i2] at hk; cases hk; exact i1
  refine ⟨mset (mset M1 (q + 4) h (b2i Z.2)) q 6 (nI (h + stX W.2.1 Z.1.1)), ?_, f2.trans (FrS.int _ 6 _), ?_, ?_, ?_, ?_⟩
  · have hv : F4_follow_b203 kh q v u s v4 v5 v6 (nI h) 1 (q + 4) (nI h) (b2i Z.2) M1 = F4_follow_b224 kh q v u s v4 v5 v6 (nI h) (mset (mset M1 (q + 4) h (b2i Z.2)) q 6 (nI (h + stX W.2.1 Z.1.1))) := by
      unfold F4_follow_b203 F4_follow_b204
      rw [ckI hh (by decide), nI_clamp (show h < 2 ^ 31 by omega), if_neg (show ¬ (1 : Int32) = 0 by decide), z5, hst, Option.bind_some, nI_add]
    unfold F4_follow_b181
    rw [r1, Option.bind_some, r3.1]
    rcases zz with ⟨e1, e2⟩ | ⟨i, i1, i2, i3, i4⟩
    · rw [if_pos (show en Z.1.1 = -1 by rw [e1]; rfl)]
      rw [e2] at hv ⊢
      exact hv
    · rw [if_neg (show ¬ en Z.1.1 = -1 by rw [i2]; exact nI_ne1 (by omega))]
      rw [i3] at hv ⊢
      exact hv
  · obtain ⟨y1, y2, y3, y4⟩ := r3
    refine ⟨?_, ?_, ?_, ?_⟩
    · rw [mset_o (by decide), mset_n (by omega)]; exact y1
    · rw [mset_o (by decide), mset_n (by omega)]; exact y2
    · rw [mset_o (by decide), mset_n (by omega)]; exact y3
    · rw [mset_o (by decide), mset_n (by omega)]; exact y4
  · intro k hk
    rw [mset_s, hk]
    rcases zz with ⟨e1, -⟩ | ⟨i, i1, i2, i3, i4⟩
    · rw [e1] at hk; cases hk
    · rw [i4]; rfl
  · rw [mset_o (by decide), mset_n (by omega)]; exact r4
  · rw [mset_n (by omega), mset_s]
theorem follow_129 {W : KW} {q v u s h k : Nat} {X : ST} {g : Nat → Bool} {wood : Bool} {M : Mem} (kh : Int32 → Mem → Option Mem) (v4 v5 : Int32) (C : CW M v W.1 W.2.1 W.2.2) (sv : v + 4 < q ∨ q + 4 < v) (hh : h < 40) (o : Option Nat) (ho : ∀ k, o = some k → k < W.1) (Y : CX M q X) (O : XO W.1 h X) (al : 1 ≤ X.2.2.2.2) (b : BT (M q 4) g) (hX : X.1 = some k) (hne : o ≠ some k) : ∃ M', F4_follow_b129 kh q v u s v4 v5 (b2i wood) (nI h) (en o) M = F4_follow_b224 kh q v u s v4 v5 (b2i wood) (nI h) M' ∧ HR W q h M g (comeO W wood h X o) M' := by
  have h8 := C.1
  have hk := (O.1 k hX).1
  have e5 : M q 5 = nI k := by rw [Y.1, hX]; rfl
  have key : ∀ gl : Bool, F4_follow_b170 kh q v u s v4 v5 (b2i wood) (nI h) 1 q (en o) (b2i gl) M = F4_follow_b181 kh q v u s v4 v5 (b2i wood) (nI h) 1 q (en o) (b2i gl) (b2i wood) M := by
    intro gl
    unfold F4_follow_b170
    cases wood with
    | true => rw [if_pos (show b2i true = 1 from rfl)]; rfl
    | false => rw [if_neg (show ¬ b2i false = 1 by decide)]; rfl
  unfold F4_follow_b129 F4_follow_b134
  cases o with
  | none =>
    rw [if_neg (show ¬ en none = M q 5 by rw [e5]; exact fun z => nI_ne1 (show k < 2 ^ 31 by omega) z.symm), if_pos (show en none = -1 from rfl)]
    unfold F4_follow_b169
    rw [show (0 : Int32) = b2i false from rfl, key false]
    exact follow_181 kh v4 v5 _ C sv hh none (fun k hk => by cases hk) Y O al b
  | some i =>
    have hi := ho i rfl
    have ci := C.2.2 i hi
    rw [if_neg (show ¬ en (some i) = M q 5 by rw [e5]; exact fun z => hne (by rw [(nI_eq (show i < 2 ^ 31 by omega) (show k < 2 ^ 31 by omega)).mp z])), if_neg (show ¬ en (some i) = -1 from nI_ne1 (by omega))]
    have hst : (nI (W.2.1 i) = 1) = (W.2.1 i = 1) := ze1 (by omega)
    rw [show en (some i) = nI i from rfl, ckI (show i < 8 by omega) (by decide), nI_clamp (show i < 2 ^ 31 by omega), ci.1]
    simp only [hst]
    by_cases c : W.2.1 i = 1
    · rw [if_pos c, show (1 : Int32) = b2i true from rfl, show nI i = en (some i) from rfl]
      have := key true
      rw [show b2i true = 1 from rfl] at this ⊢
      rw [this]
      exact follow_181 (gl := true) kh v4 v5 _ C sv hh (some i) (fun k hk => by cases hk; exact ⟨hi, (decide_eq_true c).symm⟩) Y O al b
    · rw [if_neg c]
      unfold F4_follow_b169
      rw [show (0 : Int32) = b2i false from rfl, show nI i = en (some i) from rfl, key false]
      exact follow_181 (gl := false) kh v4 v5 _ C sv hh (some i) (fun k hk => by cases hk; exact ⟨hi, (decide_eq_false c).symm⟩) Y O al b
