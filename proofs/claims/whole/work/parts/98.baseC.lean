/-! the class: what it has told; its caches; refresh -/
abbrev KX : Type := KW × (EV × Nat) × (Nat × (Nat → KS) × (Nat → Nat → Nat)) × (Nat × EV)
def H0 (K : KX) : KH := HK K.2.1.1 K.2.1.2 (fun _ => true)
def CS (mc : Mem) (ns : Nat) (SS : Nat → KS) (LT : Nat → Nat → Nat) : Prop := ns ≤ 8 ∧ mc 11 5 = nI ns ∧ ∀ p, p < ns → (mc 12 p = nI (SS p).1 ∧ mc 13 p = nI (SS p).2.1 ∧ mc 14 p = nI (SS p).2.2.1 ∧ mc 15 p = nI (SS p).2.2.2 ∧ ∀ j, j < (SS p).2.2.2 → mc 16 (p * 4 + j) = nI (LT p j)) ∧ KO (SS p)
def CD (mc : Mem) (nd : Nat) (DR : EV) : Prop := nd ≤ 8 ∧ mc 21 3 = nI nd ∧ ∀ i, i < nd → (mc 22 i = nI (DR.1 i) ∧ mc 23 i = nI (DR.2.1 i) ∧ mc 24 i = nI (DR.2.2 i)) ∧ DR.1 i < 40 ∧ DR.2.1 i < 8 ∧ DR.2.2 i < 5
def CB (mc : Mem) (K : KX) : Prop := (CW mc 6 K.1.1 K.1.2.1 K.1.2.2 ∧ CK mc 6 K.1.1 K.1.2.2 K.1.1) ∧ CE mc 17 K.2.1.1 K.2.1.2 ∧ CS mc K.2.2.1.1 K.2.2.1.2.1 K.2.2.1.2.2 ∧ CD mc K.2.2.2.1 K.2.2.2.2
def CC (mc : Mem) (K : KX) : Prop := CH mc 34 (H0 K) ∧ ∀ p, p < K.2.2.1.1 → CP mc (39 + 5 * p) K.1 (H0 K) (K.2.2.1.2.1 p)
def coinH (H : KH) (h w : Nat) : KH := (H.1, fun x k => H.2.1 x k || (x == h && k == w), H.2.2)
def tossN (K : KX) (t c : Nat) : Nat := cntN (fun p => hrS K.1 (coinH (H0 K) (c / K.1.1) (c % K.1.1)) (K.2.2.1.2.1 p) t) K.2.2.1.1
def maxA (f : Nat → Nat) : Nat → Option Nat
  | 0 => none
  | n + 1 => match maxA f n with
    | none => some n
    | some b => if f b < f n then some n else some b
def aToss (K : KX) (t : Nat) (v : Int32) : Int32 := match maxA (tossN K t) (40 * K.1.1) with
  | none => -1
  | some c => if v = 0 then nI (c / K.1.1) else if v = 1 then nI (c % K.1.1) else nI (tossN K t c)
def BC (mc : Mem) (K : KX) : Prop := ∀ t, t < 8 → mc (100 + t) 0 = aToss K t 0 ∧ mc (100 + t) 1 = aToss K t 1 ∧ mc (100 + t) 2 = aToss K t 2
def CI (mc : Mem) (K : KX) : Prop := CB mc K ∧ (mc 0 9 = 0 → CC mc K) ∧ (mc 0 17 = 0 → BC mc K)
def CF (mc : Mem) (K : KX) : Prop := CB mc K ∧ CC mc K ∧ mc 0 9 = 0 ∧ (mc 0 17 = 0 → BC mc K)
/-- what a question may change in the class -/
def FC (mc mc' : Mem) : Prop := (∀ k, 1 ≤ k → k < 34 → mc' k = mc k) ∧ ∀ i, i ≠ 9 → i ≠ 17 → mc' 0 i = mc 0 i
theorem FC.refl (mc : Mem) : FC mc mc := ⟨fun _ _ _ => rfl, fun _ _ _ => rfl⟩
theorem FC.trans {a b c : Mem} (h : FC a b) (g : FC b c) : FC a c := ⟨fun k h1 h2 => (g.1 k h1 h2).trans (h.1 k h1 h2), fun i h1 h2 => (g.2 i h1 h2).trans (h.2 i h1 h2)⟩
theorem FC.of {a b : Mem} {c d : Nat} (f : FI c d a b) (h : 34 ≤ c) : FC a b := ⟨fun k _ h2 => f k (by omega), fun i _ _ => by rw [f 0 (by omega)]⟩
theorem CB.ag {mc mc' : Mem} {K : KX} (C : CB mc K) (h : ∀ k, 6 ≤ k → k < 25 → mc' k = mc k) : CB mc' K := by
  unfold CB CW CK CE CS CD at *
  rw [h 6 (by omega) (by omega), h (6 + 1) (by omega) (by omega), h (6 + 2) (by omega) (by omega), h (6 + 3) (by omega) (by omega), h (6 + 4) (by omega) (by omega), h 17 (by omega) (by omega), h (17 + 1) (by omega) (by omega), h (17 + 2) (by omega) (by omega), h (17 + 3) (by omega) (by omega), h 11 (by omega) (by omega), h 12 (by omega) (by omega), h 13 (by omega) (by omega), h 14 (by omega) (by omega), h 15 (by omega) (by omega), h 16 (by omega) (by omega), h 21 (by omega) (by omega), h 22 (by omega) (by omega), h 23 (by omega) (by omega), h 24 (by omega) (by omega)]
  exact C
theorem CB.fc {mc mc' : Mem} {K : KX} (C : CB mc K) (h : FC mc mc') : CB mc' K := C.ag (fun k h1 h2 => h.1 k (by omega) (by omega))
theorem CC.ag {mc mc' : Mem} {K : KX} (n8 : K.2.2.1.1 ≤ 8) (C : CC mc K) (h : ∀ k, 34 ≤ k → k < 79 → mc' k = mc k) : CC mc' K := by
  refine ⟨?_, fun p hp => ?_⟩
  · have := C.1
    unfold CH at *
    rw [h (34 + 1) (by omega) (by omega), h (34 + 2) (by omega) (by omega), h (34 + 3) (by omega) (by omega)]
    exact this
  · have := C.2 p hp
    unfold CP FQ at *
    rw [h (39 + 5 * p) (by omega) (by omega), h (39 + 5 * p + 1) (by omega) (by omega), h (39 + 5 * p + 2) (by omega) (by omega), h (39 + 5 * p + 3) (by omega) (by omega), h (39 + 5 * p + 4) (by omega) (by omega)]
    exact this
theorem BC.ag {mc mc' : Mem} {K : KX} (C : BC mc K) (h : ∀ k, 100 ≤ k → mc' k = mc k) : BC mc' K := fun t ht => by
  rw [h (100 + t) (by omega)]; exact C t ht
theorem CB.n8 {mc : Mem} {K : KX} (C : CB mc K) : K.2.2.1.1 ≤ 8 := C.2.2.1.1
theorem CB.w8 {mc : Mem} {K : KX} (C : CB mc K) : K.1.1 ≤ 8 := C.1.1.1
theorem CB.e8 {mc : Mem} {K : KX} (C : CB mc K) : K.2.1.2 ≤ 8 := C.2.1.1
theorem CF.fi {mc mc' : Mem} {K : KX} (C : CF mc K) (f : FI 79 100 mc mc') : CF mc' K := by
  obtain ⟨c1, c2, c3, c4⟩ := C
  have f0 : mc' 0 = mc 0 := f 0 (by omega)
  refine ⟨c1.fc (FC.of f (by omega)), c2.ag c1.n8 (fun k _ h2 => f k (by omega)), by rw [f0]; exact c3, fun h => (c4 (by rw [← f0]; exact h)).ag (fun k h1 => f k (by omega))⟩
theorem CI.fi {mc mc' : Mem} {K : KX} (C : CI mc K) (f : FI 79 100 mc mc') : CI mc' K := by
  obtain ⟨c1, c2, c4⟩ := C
  have f0 : mc' 0 = mc 0 := f 0 (by omega)
  exact ⟨c1.fc (FC.of f (by omega)), fun h => (c2 (by rw [← f0]; exact h)).ag c1.n8 (fun k _ h2 => f k (by omega)), fun h => (c4 (by rw [← f0]; exact h)).ag (fun k h1 => f k (by omega))⟩
theorem CF.ci {mc : Mem} {K : KX} (C : CF mc K) : CI mc K := ⟨C.1, fun _ => C.2.1, C.2.2.2⟩
theorem refresh_loop {mc : Mem} {K : KX} (C : CB mc K) (G : CH mc 34 (H0 K)) : ∃ mc', F9_refresh_h22 F9_refresh_b79 FU 0 mc = some mc' ∧ (∀ k, k ≠ 0 → (k < 39 ∨ 79 ≤ k) → mc' k = mc k) ∧ (∀ i, i ≠ 9 → mc' 0 i = mc 0 i) ∧ mc' 0 9 = 0 ∧ ∀ p, p < K.2.2.1.1 → CP mc' (39 + 5 * p) K.1 (H0 K) (K.2.2.1.2.1 p) := by
  have n8 := C.n8
  refine lpF (fun n (s : Int32 × Mem) => F9_refresh_h22 F9_refresh_b79 n s.1 s.2) (fun i s => s.1 = nI i ∧ FI 39 79 mc s.2 ∧ ∀ p, p < i → CP s.2 (39 + 5 * p) K.1 (H0 K) (K.2.2.1.2.1 p)) (fun r => ∃ mc', r = some mc' ∧ (∀ k, k ≠ 0 → (k < 39 ∨ 79 ≤ k) → mc' k = mc k) ∧ (∀ i, i ≠ 9 → mc' 0 i = mc 0 i) ∧ mc' 0 9 = 0 ∧ ∀ p, p < K.2.2.1.1 → CP mc' (39 + 5 * p) K.1 (H0 K) (K.2.2.1.2.1 p)) K.2.2.1.1 (by omega) ?_ ?_ (0, mc) ⟨rfl, FI.refl _ _ _, fun p hp => by omega⟩
  · rintro n p ⟨x, M⟩ hp ⟨e, f, c⟩
    dsimp only at e f c
    subst e
    left
    have C1 : CB M K := C.fc (FC.of f (by omega))
    obtain ⟨⟨a1, a2, a3, a4, a5⟩, ko⟩ := C1.2.2.1.2.2 p hp
    obtain ⟨M', r1, r2, r3⟩ := f4_follow (q := 39 + 5 * p) (p := p) (S := K.2.2.1.2.1 p) C1.1.1 C1.1.2 (G.fi f (by omega)) (by omega) (by omega) (by omega) (by omega) a1 a4 ko
    refine ⟨(nI (p + 1), M'), ?_, rfl, f.trans (r2.mono (by omega) (by omega)), fun j hj => ?_⟩
    · show F9_refresh_p22 _ _ (nI p) M = _
      unfold F9_refresh_p22
      rw [C1.2.2.1.2.1, if_neg (nI_ge hp (by omega)), ckI (show p < 8 by omega) (by decide), ckI (show p < 8 by omega) (by decide), ckI (show p < 8 by omega) (by decide), nI_clamp (show p < 2 ^ 31 by omega), a2, a3, r1, Option.bind_some, nI_1]
    · by_cases e : j = p
      · subst e; exact r3
      · exact (c j (by omega)).fi r2 (by omega)
  · rintro n ⟨x, M⟩ ⟨e, f, c⟩
    dsimp only at e f c
    subst e
    have C1 : CB M K := C.fc (FC.of f (by omega))
    refine ⟨mset M 0 9 0, ?_, fun k h1 h2 => ?_, fun i hi => ?_, mset_s _ _ _ _, fun p hp => ?_⟩
    · show F9_refresh_p22 _ _ (nI K.2.2.1.1) M = _
      unfold F9_refresh_p22 F9_refresh_b79
      rw [C1.2.2.1.2.1, if_pos (nI_le (Nat.le_refl _) (by omega))]
    · rw [mset_n h1]; exact f k h2
    · rw [mset_o hi, f 0 (by omega)]
    · exact (c p hp).fi ((FI.refl 0 1 M).set 0 9 0 (by omega)) (by omega)
theorem f9_refresh {mc : Mem} {K : KX} (I : CI mc K) : ∃ mc', F9_refresh mc = some mc' ∧ FC mc mc' ∧ CF mc' K ∧ (∀ k, 79 ≤ k → mc' k = mc k) ∧ mc' 0 17 = mc 0 17 := by
  obtain ⟨c1, c2, c3⟩ := I
  unfold F9_refresh
  by_cases e : mc 0 9 = 0
  · rw [if_pos e]
    exact ⟨mc, rfl, FC.refl mc, ⟨c1, c2 e, e, c3⟩, fun _ _ => rfl, rfl⟩
  · rw [if_neg e]
    obtain ⟨M, r1, r2, r3⟩ := f3_fill (u := 34) c1.2.1 (by omega) mask_all
    have C1 : CB M K := c1.fc (FC.of r2 (by omega))
    obtain ⟨M', q1, q2, q3, q4, q5⟩ := refresh_loop C1 r3
    have fc : FC mc M' := ⟨fun k h1 h2 => (q2 k (by omega) (by omega)).trans (r2 k (by omega)), fun i h1 h2 => by rw [q3 i h1, r2 0 (by omega)]⟩
    have hi : ∀ k, 79 ≤ k → M' k = mc k := fun k hk => (q2 k (by omega) (by omega)).trans (r2 k (by omega))
    have e17 : M' 0 17 = mc 0 17 := by rw [q3 17 (by decide), r2 0 (by omega)]
    refine ⟨M', by rw [r1, Option.bind_some]; exact q1, fc, ⟨c1.fc fc, ⟨?_, q5⟩, q4, fun h => (c3 (by rw [← e17]; exact h)).ag (fun k hk => hi k (by omega))⟩, hi, e17⟩
    have := r3
    unfold CH at *
    rw [q2 (34 + 1) (by omega) (by omega), q2 (34 + 2) (by omega) (by omega), q2 (34 + 3) (by omega) (by omega)]
    exact this
