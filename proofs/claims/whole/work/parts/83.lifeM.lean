/-! the reference: the life of one saying -/
theorem jrI {a d : Nat} (ha : a < 2 ^ 31) (h0 : 0 < d) (hd : d < 2 ^ 31) : jrem (nI a) (nI d) = nI (a % d) := pk_rem ha h0 hd
theorem nI_sub {a b : Nat} (h : b ≤ a) : nI a - nI b = nI (a - b) := by
  obtain ⟨c, rfl⟩ : ∃ c, a = b + c := ⟨a - b, by omega⟩
  rw [← nI_add, show b + c - b = c from by omega, Int32.add_comm, Int32.add_sub_cancel]
theorem left_sub {a b : Nat} (ha : a < 2 ^ 30) (hb : b < 2 ^ 30) : ((1 : Int32) ≤ nI a - nI b) ↔ b + 1 ≤ a := by
  rw [Int32.le_iff_toInt_le, pk_sub_toInt ha hb, show (1 : Int32).toInt = 1 from by decide]
  omega
/-- only the state of saying p has changed -/
def Fr (p : Nat) (mm mm' : Mem) : Prop := (∀ k, k < 10 ∨ 16 ≤ k → mm' k = mm k) ∧ ∀ k i, i ≠ p → mm' k i = mm k i
theorem Fr.refl (p : Nat) (mm : Mem) : Fr p mm mm := ⟨fun _ _ => rfl, fun _ _ _ => rfl⟩
theorem Fr.trans {p : Nat} {a b c : Mem} (h : Fr p a b) (g : Fr p b c) : Fr p a c := ⟨fun k hk => (g.1 k hk).trans (h.1 k hk), fun k i hi => (g.2 k i hi).trans (h.2 k i hi)⟩
theorem Fr.set {p : Nat} {a b : Mem} (h : Fr p a b) {k : Nat} (v : Int32) (h1 : 10 ≤ k) (h2 : k < 16) : Fr p a (mset b k p v) :=
  ⟨fun j hj => (mset_n (by omega)).trans (h.1 j hj), fun j i hi => by
    by_cases e : j = k
    · subst e; exact (mset_o hi).trans (h.2 _ i hi)
    · rw [mset_n e]; exact h.2 j i hi⟩
theorem ME.congr {mm mm' : Mem} {E : EV} {ne : Nat} {on : Nat → Bool} (M : ME mm E ne on) (h0 : mm' 0 11 = mm 0 11) (h1 : mm' 0 13 = mm 0 13) (h9 : mm' 9 = mm 9) : ME mm' E ne on := by
  unfold ME; rw [h0, h1, h9]; exact M
theorem MW.congr {mm mm' : Mem} {nw : Nat} {st ht : Nat → Nat} (M : MW mm nw st ht) (h0 : mm' 0 7 = mm 0 7) (h7 : mm' 7 = mm 7) : MW mm' nw st ht := by
  unfold MW; rw [h0, h7]; exact M
/-- the saying p as it was read -/
def SP (mm : Mem) (p : Nat) (S : KS) : Prop := (mm 8 (8 * p) = nI S.1 ∧ mm 8 (8 * p + 1) = nI S.2.1 ∧ mm 8 (8 * p + 2) = nI S.2.2.1 ∧ mm 8 (8 * p + 3) = nI S.2.2.2) ∧ S.1 < 40 ∧ S.2.1 < 8 ∧ S.2.2.1 < 2 ∧ 1 ≤ S.2.2.2 ∧ S.2.2.2 < 64
theorem SP.congr {mm mm' : Mem} {p : Nat} {S : KS} (M : SP mm p S) (h : mm' 8 = mm 8) : SP mm' p S := by
  unfold SP; rw [h]; exact M
/-- the state of saying p -/
def SX (mm : Mem) (p : Nat) (X : ST) : Prop := mm 10 p = en X.1 ∧ (∀ k, X.1 = some k → mm 11 p = nI X.2.1) ∧ mm 12 p = nI X.2.2.1 ∧ mm 13 p = nI X.2.2.2.1 ∧ mm 14 p = nI X.2.2.2.2 ∧ mm 15 p = b2i (X.2.2.2.2 == 0)
/-- a state that can be, at hour h -/
def XO (nw h : Nat) (X : ST) : Prop := (∀ k, X.1 = some k → k < nw ∧ 1 ≤ X.2.2.2.2) ∧ X.2.1 ≤ h ∧ X.2.2.1 ≤ h ∧ X.2.2.2.1 ≤ h ∧ X.2.2.2.2 < 64
def lossM (p : Nat) (mm : Mem) : Mem := mset (mset (mset mm 10 p (-1)) 14 p 0) 15 p 1
theorem f10_loses {mm : Mem} {p : Nat} (hp : p < 8) : F10_loses (nI p) mm = some (lossM p mm) := by
  unfold F10_loses
  simp only [ckI hp (by decide), nI_clamp (show p < 2 ^ 31 by omega)]
  rfl
theorem lossM_fr (p : Nat) (mm : Mem) : Fr p mm (lossM p mm) := (((Fr.refl p mm).set _ (by decide) (by decide)).set _ (by decide) (by decide)).set _ (by decide) (by decide)
theorem lossM_at {p : Nat} {mm : Mem} : lossM p mm 10 p = -1 ∧ lossM p mm 11 p = mm 11 p ∧ lossM p mm 12 p = mm 12 p ∧ lossM p mm 13 p = mm 13 p ∧ lossM p mm 14 p = 0 ∧ lossM p mm 15 p = 1 := by
  unfold lossM
  refine ⟨?_, ?_, ?_, ?_, ?_, ?_⟩
  · rw [mset_n (by decide), mset_n (by decide), mset_s]
  · rw [mset_n (by decide), mset_n (by decide), mset_n (by decide)]
  · rw [mset_n (by decide), mset_n (by decide), mset_n (by decide)]
  · rw [mset_n (by decide), mset_n (by decide), mset_n (by decide)]
  · rw [mset_n (by decide), mset_s]
  · rw [mset_s]
theorem lossM_S {p : Nat} {mm : Mem} {X : ST} (h : SX mm p X) : SX (lossM p mm) p (lossS X) := by
  obtain ⟨h1, h2, h3, h4, h5, h6⟩ := h
  obtain ⟨e1, e2, e3, e4, e5, e6⟩ := @lossM_at p mm
  exact ⟨e1, fun k hk => (by cases hk), e3.trans h3, e4.trans h4, e5, e6⟩
theorem lossS_O {nw h : Nat} {X : ST} (o : XO nw h X) : XO nw h (lossS X) := ⟨fun k hk => (by cases hk), o.2.1, o.2.2.1, o.2.2.2.1, (by decide : 0 < 64)⟩
theorem comes_b94 {mm : Mem} {p h k a b : Nat} (hp : p < 8) (ha : a < 2 ^ 30) (hb : b < 2 ^ 30) : F10_comes_b94 (nI h) (nI p) (nI k) (nI p) (nI a) (nI b) mm = if b + 1 ≤ a then some (1, mset mm 14 p (nI (a - b))) else some (0, lossM p (mset mm 14 p (nI a - nI b))) := by
  unfold F10_comes_b94
  simp only [ckI hp (by decide), nI_clamp (show p < 2 ^ 31 by omega), lt, mset_s, f10_loses hp]
  by_cases c : b + 1 ≤ a
  · rw [if_pos c, if_pos ((left_sub ha hb).mpr c), nI_sub (by omega)]
  · rw [if_neg c, if_neg (fun z => c ((left_sub ha hb).mp z))]; rfl
theorem comes_b70 {mm : Mem} {nw : Nat} {st ht : Nat → Nat} (M : MW mm nw st ht) {p h k a : Nat} (hp : p < 8) (hk : k < nw) (ha : a < 2 ^ 30) (hl : mm 14 p = nI a) : F10_comes_b70 (nI h) (nI p) (nI k) mm = if (if st k = 1 then 1 else 0) + 1 ≤ a then some (1, mset mm 14 p (nI (a - (if st k = 1 then 1 else 0)))) else some (0, lossM p (mset mm 14 p (nI a - nI (if st k = 1 then 1 else 0)))) := by
  obtain ⟨h8, -, hw⟩ := M
  obtain ⟨w1, -, w3, -⟩ := hw k hk
  obtain ⟨x1, x2, x3, x4⟩ := ix2 (show k < 8 by omega)
  unfold F10_comes_b70
  simp only [x1, x3, ckI hp (by decide), ckI (show 2 * k < 16 by omega) (by decide), nI_clamp (show p < 2 ^ 31 by omega), w1, hl]
  by_cases c : st k = 1
  · rw [if_pos (show nI (st k) = 1 by rw [c]; rfl)]; simp only [if_pos c]; exact comes_b94 (b := 1) hp ha (by decide)
  · rw [if_neg (show ¬ nI (st k) = 1 from fun z => c ((nI_eq (b := 1) (by omega) (by decide)).mp z))]; simp only [if_neg c]; exact comes_b94 (b := 0) hp ha (by decide)
theorem comes_end {mm : Mem} {nw : Nat} {st ht : Nat → Nat} (M : MW mm nw st ht) {p h k a c f : Nat} (hp : p < 8) (hk : k < nw) (ha : a < 64) (h10 : mm 10 p = nI k) (h11 : mm 11 p = nI h) (h12 : mm 12 p = nI c) (h13 : mm 13 p = nI f) (h14 : mm 14 p = nI a) (h15 : mm 15 p = 0) : ∃ mm', F10_comes_b70 (nI h) (nI p) (nI k) mm = some (b2i (!decide (a - (if st k = 1 then 1 else 0) = 0)), mm') ∧ Fr p mm mm' ∧ SX mm' p (if a - (if st k = 1 then 1 else 0) = 0 then (none, h, c, f, 0) else (some k, h, c, f, a - (if st k = 1 then 1 else 0))) := by
  rw [comes_b70 M hp hk (show a < 2 ^ 30 by omega) h14]
  generalize (if st k = 1 then 1 else 0) = d
  by_cases e : d + 1 ≤ a
  · rw [if_pos e, if_neg (by omega)]
    refine ⟨_, by rw [show decide (a - d = 0) = false from by simp; omega]; rfl, (Fr.refl p mm).set _ (by decide) (by decide), ?_⟩
    refine ⟨?_, fun j _ => ?_, ?_, ?_, ?_, ?_⟩
    · rw [mset_n (by decide)]; exact h10
    · rw [mset_n (by decide)]; exact h11
    · rw [mset_n (by decide)]; exact h12
    · rw [mset_n (by decide)]; exact h13
    · rw [mset_s]
    · rw [mset_n (by decide), h15, show ((a - d == 0) = false) from by simp; omega]; rfl
  · rw [if_neg e, if_pos (by omega)]
    refine ⟨_, by rw [show decide (a - d = 0) = true from by simp; omega]; rfl, ((Fr.refl p mm).set _ (by decide) (by decide)).trans (lossM_fr p _), ?_⟩
    obtain ⟨e1, e2, e3, e4, e5, e6⟩ := @lossM_at p (mset mm 14 p (nI a - nI d))
    refine ⟨e1, fun j hj => (by cases hj), e3.trans ?_, e4.trans ?_, e5, e6⟩
    · rw [mset_n (by decide)]; exact h12
    · rw [mset_n (by decide)]; exact h13
theorem comeS_1 (W : KW) (wood : Bool) (h k : Nat) (X : ST) : (comeS W wood h k X).1 = if comL W.2.1 wood k X = 0 then (none, h, X.2.2.1 + 1, comF wood X, 0) else (some k, h, X.2.2.1 + 1, comF wood X, comL W.2.1 wood k X) := by
  unfold comeS; split <;> rfl
theorem comeS_2 (W : KW) (wood : Bool) (h k : Nat) (X : ST) : (comeS W wood h k X).2 = !decide (comL W.2.1 wood k X = 0) := by
  unfold comeS
  split
  · rename_i e; rw [decide_eq_true e]; rfl
  · rename_i e; rw [decide_eq_false e]; rfl
theorem comeS_O {W : KW} {wood : Bool} {h k : Nat} {X : ST} (hk : k < W.1) (O : XO W.1 h X) : XO W.1 (h + 1) (comeS W wood h k X).1 := by
  obtain ⟨-, o2, o3, o4, o5⟩ := O
  have hf : comF wood X ≤ h + 1 := by unfold comF; split <;> omega
  have hl : comL W.2.1 wood k X < 64 := by unfold comL; split <;> split <;> omega
  rw [comeS_1]
  split
  · exact ⟨fun j hj => (by cases hj), Nat.le_succ h, Nat.succ_le_succ o3, hf, (by decide : 0 < 64)⟩
  · rename_i e
    refine ⟨fun j hj => ?_, Nat.le_succ h, Nat.succ_le_succ o3, hf, hl⟩
    cases hj
    exact ⟨hk, Nat.pos_of_ne_zero e⟩
theorem f10_comes {mm : Mem} {W : KW} (M : MW mm W.1 W.2.1 W.2.2) {p h k : Nat} {S : KS} {X : ST} (hp : p < 8) (hk : k < W.1) (hh : h < 40) (P : SP mm p S) (Y : SX mm p X) (O : XO W.1 h X) (al : 1 ≤ X.2.2.2.2) : ∃ mm', F10_comes (nI h) (nI p) (nI k) mm = some (b2i (comeS W (S.2.2.1 == 1) h k X).2, mm') ∧ Fr p mm mm' ∧ SX mm' p (comeS W (S.2.2.1 == 1) h k X).1 := by
  obtain ⟨y1, y2, y3, y4, y5, y6⟩ := Y
  obtain ⟨-, o2, o3, o4, o5⟩ := O
  obtain ⟨⟨s1, s2, s3, s4⟩, l1, l2, l3, l4, l5⟩ := P
  rw [comeS_1, comeS_2]
  have z15 : mm 15 p = 0 := by rw [y6, show (X.2.2.2.2 == 0) = false from by simp; omega]; rfl
  have e12 : nI X.2.2.1 + (1 : Int32) = nI (X.2.2.1 + 1) := nI_1 _
  have e13 : nI X.2.2.2.1 + (1 : Int32) = nI (X.2.2.2.1 + 1) := nI_1 _
  have e14 : nI X.2.2.2.2 - (1 : Int32) = nI (X.2.2.2.2 - 1) := nI_sub (b := 1) al
  have em : jrem (nI (X.2.2.1 + 1)) 2 = nI ((X.2.2.1 + 1) % 2) := jrI (d := 2) (by omega) (by decide) (by decide)
  have ez : (nI ((X.2.2.1 + 1) % 2) = 0) = ((X.2.2.1 + 1) % 2 = 0) := eqI (b := 0) (by omega) (by decide)
  have ew : (nI S.2.2.1 = 1) = (S.2.2.1 = 1) := eqI (b := 1) (by omega) (by decide)
  have ei : (8 : Int32) * nI p + 2 = nI (8 * p + 2) := by rw [show (8 : Int32) = nI 8 from rfl, pk_mul]; exact nI_add _ 2
  have key : F10_comes (nI h) (nI p) (nI k) mm = F10_comes_b70 (nI h) (nI p) (nI k) (if losF (S.2.2.1 == 1) X then mset (mset (mset (mset (mset mm 10 p (nI k)) 11 p (nI h)) 12 p (nI (X.2.2.1 + 1))) 13 p (nI (X.2.2.2.1 + 1))) 14 p (nI (X.2.2.2.2 - 1)) else mset (mset (mset mm 10 p (nI k)) 11 p (nI h)) 12 p (nI (X.2.2.1 + 1))) := by
    unfold F10_comes
    simp only [lt, ckI hp (by decide), nI_clamp (show p < 2 ^ 31 by omega), ei, ckI (show 8 * p + 2 < 64 by omega) (by decide), nI_clamp (show 8 * p + 2 < 2 ^ 31 by omega)]
    rw [show (mset (mset mm 10 p (nI k)) 11 p (nI h)) 12 p = nI X.2.2.1 from by rw [mset_n (by decide), mset_n (by decide)]; exact y3, e12, mset_s, em]
    simp only [ez]
    rw [show (mset (mset (mset mm 10 p (nI k)) 11 p (nI h)) 12 p (nI (X.2.2.1 + 1))) 8 (8 * p + 2) = nI S.2.2.1 from by rw [mset_n (by decide), mset_n (by decide), mset_n (by decide)]; exact s3]
    rw [show (mset (mset (mset mm 10 p (nI k)) 11 p (nI h)) 12 p (nI (X.2.2.1 + 1))) 13 p = nI X.2.2.2.1 from by rw [mset_n (by decide), mset_n (by decide), mset_n (by decide)]; exact y4, e13]
    rw [show (mset (mset (mset (mset mm 10 p (nI k)) 11 p (nI h)) 12 p (nI (X.2.2.1 + 1))) 13 p (nI (X.2.2.2.1 + 1))) 14 p = nI X.2.2.2.2 from by rw [mset_n (by decide), mset_n (by decide), mset_n (by decide), mset_n (by decide)]; exact y5, e14]
    simp only [ew]
    unfold losF
    by_cases c1 : (X.2.2.1 + 1) % 2 = 0
    · by_cases c2 : S.2.2.1 = 1
      · rw [if_pos c1, if_pos c2, if_pos (by simp [c1, c2])]
      · rw [if_pos c1, if_neg c2, if_neg (by simp [c2])]
    · rw [if_neg c1, if_neg (by simp [c1])]
  rw [key]
  by_cases c : losF (S.2.2.1 == 1) X = true
  · have M' : MW (mset (mset (mset (mset (mset mm 10 p (nI k)) 11 p (nI h)) 12 p (nI (X.2.2.1 + 1))) 13 p (nI (X.2.2.2.1 + 1))) 14 p (nI (X.2.2.2.2 - 1))) W.1 W.2.1 W.2.2 := M.congr rfl rfl
    obtain ⟨mm', r1, r2, r3⟩ := comes_end M' hp hk (show X.2.2.2.2 - 1 < 64 by omega) (h := h) (c := X.2.2.1 + 1) (f := X.2.2.2.1 + 1) (by rw [mset_n (by decide), mset_n (by decide), mset_n (by decide), mset_n (by decide), mset_s]) (by rw [mset_n (by decide), mset_n (by decide), mset_n (by decide), mset_s]) (by rw [mset_n (by decide), mset_n (by decide), mset_s]) (by rw [mset_n (by decide), mset_s]) (by rw [mset_s]) (by rw [mset_n (by decide), mset_n (by decide), mset_n (by decide), mset_n (by decide), mset_n (by decide)]; exact z15)
    refine ⟨mm', ?_, (((((Fr.refl p mm).set _ (by decide) (by decide)).set _ (by decide) (by decide)).set _ (by decide) (by decide)).set _ (by decide) (by decide) |>.set _ (by decide) (by decide)).trans r2, ?_⟩
    · unfold comL; simp only [if_pos c]; exact r1
    · unfold comL comF; simp only [if_pos c]; exact r3
  · have M' : MW (mset (mset (mset mm 10 p (nI k)) 11 p (nI h)) 12 p (nI (X.2.2.1 + 1))) W.1 W.2.1 W.2.2 := M.congr rfl rfl
    obtain ⟨mm', r1, r2, r3⟩ := comes_end M' hp hk (show X.2.2.2.2 < 64 by omega) (h := h) (c := X.2.2.1 + 1) (f := X.2.2.2.1) (by rw [mset_n (by decide), mset_n (by decide), mset_s]) (by rw [mset_n (by decide), mset_s]) (by rw [mset_s]) (by rw [mset_n (by decide), mset_n (by decide), mset_n (by decide)]; exact y4) (by rw [mset_n (by decide), mset_n (by decide), mset_n (by decide)]; exact y5) (by rw [mset_n (by decide), mset_n (by decide), mset_n (by decide)]; exact z15)
    refine ⟨mm', ?_, ((((Fr.refl p mm).set _ (by decide) (by decide)).set _ (by decide) (by decide)).set _ (by decide) (by decide)).trans r2, ?_⟩
    · unfold comL; simp only [if_neg c]; exact r1
    · unfold comL comF; simp only [if_neg c]; exact r3
