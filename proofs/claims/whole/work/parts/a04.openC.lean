/-! the class: open -/
def openB (K : KX) (t : Nat) (on : Nat → Bool) : Bool := allB (fun p => hrS K.1 (HK K.2.1.1 K.2.1.2 on) (K.2.2.1.2.1 p) t) K.2.2.1.1
theorem c_all {mc : Mem} {K : KX} {t : Nat} {v2 : Int32} {on : Nat → Bool} (C : CB mc K) (ht : t < 8) (hm : ∀ i, i < 8 → (((-1 : Int32) &&& (v2 ^^^ (-1 : Int32))) >>> (nI i &&& (31 : Int32))) &&& (1 : Int32) = b2i (on i)) : ∃ mc', F9_allHeardWithout (nI t) v2 mc = some (b2i (openB K t on), mc') ∧ FI 79 100 mc mc' := by
  have n8 := C.n8
  obtain ⟨M, r1, r2, r3⟩ := f3_fill (u := 84) C.2.1 (by omega) hm
  unfold F9_allHeardWithout
  rw [r1, Option.bind_some]
  have C1 : CB M K := C.fc (FC.of r2 (by omega))
  suffices h : ∃ mc', F9_allHeardWithout_h18 (nI t) v2 FU 0 M = some (b2i (openB K t on), mc') ∧ FI 92 97 M mc' by
    obtain ⟨mc', q1, q2⟩ := h
    exact ⟨mc', q1, (r2.mono (by omega) (by omega)).trans (q2.mono (by omega) (by omega))⟩
  refine lpF (fun n (s : Int32 × Mem) => F9_allHeardWithout_h18 (nI t) v2 n s.1 s.2) (fun p s => s.1 = nI p ∧ FI 92 97 M s.2 ∧ allB (fun p => hrS K.1 (HK K.2.1.1 K.2.1.2 on) (K.2.2.1.2.1 p) t) p = true) (fun r => ∃ mc', r = some (b2i (openB K t on), mc') ∧ FI 92 97 M mc') K.2.2.1.1 (by omega) ?_ ?_ (0, M) ⟨rfl, FI.refl _ _ _, rfl⟩
  · rintro n p ⟨x, M1⟩ hp ⟨e1, f, a⟩
    dsimp only at e1 f a
    subst e1
    obtain ⟨⟨a1, a2, a3, a4, -⟩, ko⟩ := C1.2.2.1.2.2 p hp
    obtain ⟨M2, q1, q2, q3⟩ := f4_follow (q := 92) (p := p) (S := K.2.2.1.2.1 p) (C1.1.1.fi f (by omega)) (C1.1.2.fi f (by omega)) (r3.fi f (by omega)) (by omega) (by omega) (by omega) (by omega) (by rw [f 12 (by omega)]; exact a1) (by rw [f 15 (by omega)]; exact a4) ko
    have e : F9_allHeardWithout_h18 (nI t) v2 (n + 1) (nI p) M1 = if hrS K.1 (HK K.2.1.1 K.2.1.2 on) (K.2.2.1.2.1 p) t then F9_allHeardWithout_h18 (nI t) v2 n (nI (p + 1)) M2 else some (0, M2) := by
      show F9_allHeardWithout_p18 _ _ _ (nI p) M1 = _
      unfold F9_allHeardWithout_p18
      rw [show M1 11 5 = nI K.2.2.1.1 from by rw [f 11 (by omega)]; exact C1.2.2.1.2.1, if_neg (nI_ge hp (by omega)), ckI (show p < 8 by omega) (by decide), ckI (show p < 8 by omega) (by decide), nI_clamp (show p < 2 ^ 31 by omega), show M1 13 p = nI (K.2.2.1.2.1 p).2.1 from by rw [f 13 (by omega)]; exact a2, show M1 14 p = nI (K.2.2.1.2.1 p).2.2.1 from by rw [f 14 (by omega)]; exact a3, q1, Option.bind_some, f4_heard q3 ht, Option.bind_some, nI_1 p]
      cases hrS K.1 (HK K.2.1.1 K.2.1.2 on) (K.2.2.1.2.1 p) t <;> rfl
    cases hh : hrS K.1 (HK K.2.1.1 K.2.1.2 on) (K.2.2.1.2.1 p) t with
    | true =>
      left
      rw [hh, if_pos rfl] at e
      exact ⟨(nI (p + 1), M2), e, rfl, f.trans q2, by rw [allB_s, a, hh]; rfl⟩
    | false =>
      right
      rw [hh, if_neg (by decide)] at e
      refine ⟨M2, ?_, f.trans q2⟩
      show F9_allHeardWithout_h18 (nI t) v2 (n + 1) (nI p) M1 = _
      unfold openB
      rw [e, allB_f (j := p) hh hp]
      rfl
  · rintro n ⟨x, M1⟩ ⟨e1, f, a⟩
    dsimp only at e1 f a
    subst e1
    refine ⟨M1, ?_, f⟩
    show F9_allHeardWithout_p18 _ _ _ (nI K.2.2.1.1) M1 = _
    unfold F9_allHeardWithout_p18 openB
    rw [show M1 11 5 = nI K.2.2.1.1 from by rw [f 11 (by omega)]; exact C1.2.2.1.2.1, if_pos (nI_le (Nat.le_refl _) (by omega)), a]
    rfl
def lidB (K : KX) (e : Nat) : Bool := K.2.1.1.1 e == 1
def open1 (K : KX) (t e : Nat) : Bool := lidB K e && openB K t (fun i => !(i == e))
def open2 (K : KX) (t a b : Nat) : Bool := decide (a < b) && (lidB K a && lidB K b) && openB K t (fun i => !(i == a || i == b))
def open2f (K : KX) (t a : Nat) : Option Nat := fsB (open2 K t a) K.2.1.2
def aOpenOf (K : KX) (t : Nat) (i : Int32) : Int32 :=
  if openB K t (fun _ => true) then (if i = -1 then 0 else -1)
  else match fsB (open1 K t) K.2.1.2 with
    | some e => if i = -1 then 1 else if i = 0 then nI e else -1
    | none => match fsB (fun a => (open2f K t a).isSome) K.2.1.2 with
      | some a => if i = -1 then 2 else if i = 0 then nI a else en (open2f K t a)
      | none => -1
theorem lid_eq {mc : Mem} {K : KX} (C : CB mc K) {e : Nat} (he : e < K.2.1.2) : (mc 18 e = 1) = (lidB K e = true) := by
  obtain ⟨⟨a1, -, -⟩, l1, -, -⟩ := C.2.1.2.2 e he
  unfold lidB
  rw [show mc 18 e = nI (K.2.1.1.1 e) from a1, ze1 (show K.2.1.1.1 e < 2 ^ 31 by omega), beq_iff_eq]
theorem c_one {mc : Mem} {K : KX} {t : Nat} (C : CB mc K) (ht : t < 8) : ∃ mc', F9_oneLidToOpen (nI t) mc = some (en (fsB (open1 K t) K.2.1.2), mc') ∧ FI 79 100 mc mc' := by
  have e8 := C.e8
  unfold F9_oneLidToOpen
  refine lpF (fun n (s : Int32 × Mem) => F9_oneLidToOpen_h2 (nI t) n s.1 s.2) (fun p s => s.1 = nI p ∧ FI 79 100 mc s.2 ∧ fsB (open1 K t) p = none) (fun r => ∃ mc', r = some (en (fsB (open1 K t) K.2.1.2), mc') ∧ FI 79 100 mc mc') K.2.1.2 (by omega) ?_ ?_ (0, mc) ⟨rfl, FI.refl _ _ _, rfl⟩
  · rintro n p ⟨x, M1⟩ hp ⟨e1, f, a⟩
    dsimp only at e1 f a
    subst e1
    have C1 : CB M1 K := C.fc (FC.of f (by omega))
    obtain ⟨M2, q1, q2⟩ := c_all (v2 := (1 : Int32) <<< (nI p &&& (31 : Int32))) C1 ht (mask_one p (by omega))
    have e : F9_oneLidToOpen_h2 (nI t) (n + 1) (nI p) M1 = if lidB K p then (if openB K t (fun i => !(i == p)) then some (nI p, M2) else F9_oneLidToOpen_h2 (nI t) n (nI (p + 1)) M2) else F9_oneLidToOpen_h2 (nI t) n (nI (p + 1)) M1 := by
      show F9_oneLidToOpen_p2 _ _ (nI p) M1 = _
      unfold F9_oneLidToOpen_p2 F9_oneLidToOpen_b39
      rw [show M1 17 3 = nI K.2.1.2 from C1.2.1.2.1, if_neg (nI_ge hp (by omega)), ckI (show p < 8 by omega) (by decide), nI_clamp (show p < 2 ^ 31 by omega), q1, Option.bind_some, nI_1 p]
      simp only [lid_eq C1 hp]
      cases openB K t (fun i => !(i == p)) <;> rfl
    cases h1 : lidB K p with
    | false =>
      left
      rw [h1, if_neg (by decide)] at e
      exact ⟨(nI (p + 1), M1), e, rfl, f, by unfold fsB; rw [a]; dsimp only; unfold open1; rw [h1]; rfl⟩
    | true =>
      rw [h1, if_pos rfl] at e
      cases h2 : openB K t (fun i => !(i == p)) with
      | false =>
        left
        rw [h2, if_neg (by decide)] at e
        exact ⟨(nI (p + 1), M2), e, rfl, f.trans q2, by unfold fsB; rw [a]; dsimp only; unfold open1; rw [h1, h2]; rfl⟩
      | true =>
        right
        rw [h2, if_pos rfl] at e
        refine ⟨M2, ?_, f.trans q2⟩
        have : fsB (open1 K t) (p + 1) = some p := by unfold fsB; rw [a]; dsimp only; unfold open1; rw [h1, h2]; rfl
        rw [fsB_ge this (by omega)]
        exact e
  · rintro n ⟨x, M1⟩ ⟨e1, f, a⟩
    dsimp only at e1 f a
    subst e1
    refine ⟨M1, ?_, f⟩
    have C1 : CB M1 K := C.fc (FC.of f (by omega))
    show F9_oneLidToOpen_p2 _ _ (nI K.2.1.2) M1 = _
    unfold F9_oneLidToOpen_p2
    rw [show M1 17 3 = nI K.2.1.2 from C1.2.1.2.1, if_pos (nI_le (Nat.le_refl _) (by omega)), a]
    rfl
theorem fsB_low {p : Nat → Bool} {n : Nat} (h : ∀ j, j < n → p j = false) : fsB p n = none := by
  rw [fsB_none]
  cases he : evB p n with
  | false => rfl
  | true =>
    obtain ⟨j, h1, h2⟩ := (evB_iff p n).mp he
    rw [h j h1] at h2; cases h2
theorem c_two {mc : Mem} {K : KX} {t : Nat} (C : CB mc K) (ht : t < 8) (i : Int32) : ∃ mc', F9_twoLidsToOpen (nI t) i mc = some (match fsB (fun a => (open2f K t a).isSome) K.2.1.2 with | some a => if i = -1 then 2 else if i = 0 then nI a else en (open2f K t a) | none => -1, mc') ∧ FI 79 100 mc mc' := by
  have e8 := C.e8
  have inn : ∀ (kx85 : Int32 → Int32 → Mem → Option (Int32 × Mem)) (kx111 : Int32 → Mem → Option (Int32 × Mem)) (a : Nat) (M : Mem), a < K.2.1.2 → FI 79 100 mc M → ∃ M', F9_twoLidsToOpen_h18 kx85 kx111 (nI t) i FU (nI a) (nI (a + 1)) M = (match open2f K t a with | none => kx111 (nI a) M' | some b => kx85 (nI a) (nI b) M') ∧ FI 79 100 mc M' := by
    intro kx85 kx111 a M ha fM
    refine lpQ (fun n (s : Int32 × Mem) => F9_twoLidsToOpen_h18 kx85 kx111 (nI t) i n (nI a) s.1 s.2) (fun p s => s.1 = nI p ∧ FI 79 100 mc s.2 ∧ a < p ∧ fsB (open2 K t a) p = none) (fun r => ∃ M', r = (match open2f K t a with | none => kx111 (nI a) M' | some b => kx85 (nI a) (nI b) M') ∧ FI 79 100 mc M') K.2.1.2 ?_ ?_ (K.2.1.2 - (a + 1)) FU (a + 1) (nI (a + 1), M) (by omega) (FU_lt (by omega)) ⟨rfl, fM, Nat.lt_succ_self a, fsB_low (fun j hj => by unfold open2; rw [decide_eq_false (by omega)]; rfl)⟩
    · rintro n p ⟨x, M1⟩ hp ⟨e1, f, hap, hf⟩
      dsimp only at e1 f
      subst e1
      have C1 : CB M1 K := C.fc (FC.of f (by omega))
      obtain ⟨M2, q1, q2⟩ := c_all (v2 := ((1 : Int32) <<< (nI a &&& (31 : Int32))) ||| ((1 : Int32) <<< (nI p &&& (31 : Int32)))) C1 ht (mask_two a (by omega) p (by omega))
      have e : F9_twoLidsToOpen_h18 kx85 kx111 (nI t) i (n + 1) (nI a) (nI p) M1 = if lidB K a && lidB K p then (if openB K t (fun i => !(i == a || i == p)) then kx85 (nI a) (nI p) M2 else F9_twoLidsToOpen_h18 kx85 kx111 (nI t) i n (nI a) (nI (p + 1)) M2) else F9_twoLidsToOpen_h18 kx85 kx111 (nI t) i n (nI a) (nI (p + 1)) M1 := by
        show F9_twoLidsToOpen_p18 _ _ _ _ _ (nI a) (nI p) M1 = _
        unfold F9_twoLidsToOpen_p18 F9_twoLidsToOpen_b61
        unfold F9_twoLidsToOpen_b62 F9_twoLidsToOpen_b105
        rw [show M1 17 3 = nI K.2.1.2 from C1.2.1.2.1, if_neg (nI_ge hp (by omega)), ckI (show a < 8 by omega) (by decide), ckI (show p < 8 by omega) (by decide), nI_clamp (show p < 2 ^ 31 by omega), nI_clamp (show a < 2 ^ 31 by omega), q1, Option.bind_some, nI_1 p, if_neg (show ¬ (1 : Int32) = 0 by decide), if_pos (show (0 : Int32) = 0 from rfl)]
        simp only [lid_eq C1 hp, lid_eq C1 ha]
        cases lidB K a <;> cases lidB K p <;> cases openB K t (fun i => !(i == a || i == p)) <;> rfl
      cases h1 : lidB K a && lidB K p with
      | false =>
        left
        rw [h1, if_neg (by decide)] at e
        exact ⟨(nI (p + 1), M1), e, rfl, f, by omega, by unfold fsB; rw [hf]; dsimp only; unfold open2; rw [h1, Bool.and_false]; rfl⟩
      | true =>
        rw [h1, if_pos rfl] at e
        cases h2 : openB K t (fun i => !(i == a || i == p)) with
        | false =>
          left
          rw [h2, if_neg (by decide)] at e
          exact ⟨(nI (p + 1), M2), e, rfl, f.trans q2, by omega, by unfold fsB; rw [hf]; dsimp only; unfold open2; rw [h2, Bool.and_false]; rfl⟩
        | true =>
          right
          rw [h2, if_pos rfl] at e
          refine ⟨M2, ?_, f.trans q2⟩
          have : fsB (open2 K t a) (p + 1) = some p := by unfold fsB; rw [hf]; dsimp only; unfold open2; rw [h1, h2, decide_eq_true hap]; rfl
          unfold open2f
          rw [fsB_ge this (by omega)]
          exact e
    · rintro n ⟨x, M1⟩ ⟨e1, f, hap, hf⟩
      dsimp only at e1 f
      subst e1
      have C1 : CB M1 K := C.fc (FC.of f (by omega))
      refine ⟨M1, ?_, f⟩
      show F9_twoLidsToOpen_p18 _ _ _ _ _ (nI a) (nI K.2.1.2) M1 = _
      unfold F9_twoLidsToOpen_p18 open2f
      rw [show M1 17 3 = nI K.2.1.2 from C1.2.1.2.1, if_pos (nI_le (Nat.le_refl _) (by omega)), hf]
  unfold F9_twoLidsToOpen
  refine lpF (fun n (s : Int32 × Mem) => F9_twoLidsToOpen_h2 (F9_twoLidsToOpen_b85 (nI t) i) (nI t) i n s.1 s.2) (fun p s => s.1 = nI p ∧ FI 79 100 mc s.2 ∧ fsB (fun a => (open2f K t a).isSome) p = none) (fun r => ∃ mc', r = some (match fsB (fun a => (open2f K t a).isSome) K.2.1.2 with | some a => if i = -1 then 2 else if i = 0 then nI a else en (open2f K t a) | none => -1, mc') ∧ FI 79 100 mc mc') K.2.1.2 (by omega) ?_ ?_ (0, mc) ⟨rfl, FI.refl _ _ _, rfl⟩
  · rintro n p ⟨x, M1⟩ hp ⟨e1, f, hf⟩
    dsimp only at e1 f
    subst e1
    obtain ⟨M2, q1, q2⟩ := inn (F9_twoLidsToOpen_b85 (nI t) i) (F9_twoLidsToOpen_b111 (F9_twoLidsToOpen_h2 (F9_twoLidsToOpen_b85 (nI t) i) (nI t) i n) (F9_twoLidsToOpen_b85 (nI t) i) (nI t) i) p M1 hp f
    have e : F9_twoLidsToOpen_h2 (F9_twoLidsToOpen_b85 (nI t) i) (nI t) i (n + 1) (nI p) M1 = match open2f K t p with | none => F9_twoLidsToOpen_h2 (F9_twoLidsToOpen_b85 (nI t) i) (nI t) i n (nI (p + 1)) M2 | some b => F9_twoLidsToOpen_b85 (nI t) i (nI p) (nI b) M2 := by
      show F9_twoLidsToOpen_p2 _ _ _ _ (nI p) M1 = _
      unfold F9_twoLidsToOpen_p2
      rw [show M1 17 3 = nI K.2.1.2 from (C.fc (FC.of f (by omega))).2.1.2.1, if_neg (nI_ge hp (by omega)), nI_1 p, q1]
      cases open2f K t p with
      | none => dsimp only; unfold F9_twoLidsToOpen_b111; rw [nI_1 p]
      | some b => rfl
    cases h2 : open2f K t p with
    | none =>
      left
      rw [h2] at e
      exact ⟨(nI (p + 1), M2), e, rfl, q2, by unfold fsB; rw [hf]; dsimp only; rw [h2]; rfl⟩
    | some b =>
      right
      rw [h2] at e
      refine ⟨M2, ?_, q2⟩
      have : fsB (fun a => (open2f K t a).isSome) (p + 1) = some p := by unfold fsB; rw [hf]; dsimp only; rw [h2]; rfl
      rw [fsB_ge this (by omega)]
      dsimp only
      rw [e, h2]
      dsimp only
      unfold F9_twoLidsToOpen_b85
      by_cases z1 : i = -1
      · rw [if_pos z1, if_pos z1]
      · rw [if_neg z1, if_neg z1]
        by_cases z2 : i = 0
        · rw [if_pos z2, if_pos z2]
        · rw [if_neg z2, if_neg z2]; rfl
  · rintro n ⟨x, M1⟩ ⟨e1, f, hf⟩
    dsimp only at e1 f
    subst e1
    refine ⟨M1, ?_, f⟩
    show F9_twoLidsToOpen_p2 _ _ _ _ (nI K.2.1.2) M1 = _
    unfold F9_twoLidsToOpen_p2
    rw [show M1 17 3 = nI K.2.1.2 from (C.fc (FC.of f (by omega))).2.1.2.1, if_pos (nI_le (Nat.le_refl _) (by omega)), hf]
def aOpen (K : KX) (v i : Int32) : Int32 := if 0 ≤ v ∧ v < 8 then (if i = -1 ∨ (0 ≤ i ∧ i < 2) then aOpenOf K v.toNatClampNeg i else -2) else -2
theorem c_open25 {mc : Mem} {K : KX} {t : Nat} (C : CB mc K) (ht : t < 8) (i : Int32) : ∃ mc', F9_open_b25 (nI t) i mc = some (aOpenOf K t i, mc') ∧ FI 79 100 mc mc' := by
  have e8 := C.e8
  obtain ⟨M, r1, r2⟩ := c_all (v2 := 0) C ht mask_0
  have C1 : CB M K := C.fc (FC.of r2 (by omega))
  unfold F9_open_b25 aOpenOf
  rw [r1, Option.bind_some]
  dsimp only
  cases h0 : openB K t (fun _ => true) with
  | true =>
    rw [if_neg (show ¬ b2i true = 0 by decide), if_pos rfl]
    exact ⟨M, by split <;> rfl, r2⟩
  | false =>
    rw [if_pos (show b2i false = 0 from rfl), if_neg (by decide)]
    obtain ⟨M2, q1, q2⟩ := c_one C1 ht
    rw [q1, Option.bind_some]
    dsimp only
    cases h1 : fsB (open1 K t) K.2.1.2 with
    | some e =>
      have := (fsB_lt h1).1
      rw [if_neg (show ¬ en (some e) = -1 from nI_ne1 (by omega))]
      refine ⟨M2, ?_, r2.trans q2⟩
      dsimp only
      split
      · rfl
      · split <;> rfl
    | none =>
      rw [if_pos (show en none = -1 from rfl)]
      obtain ⟨M3, p1, p2⟩ := c_two (C1.fc (FC.of q2 (by omega))) ht i
      rw [p1, Option.bind_some]
      exact ⟨M3, rfl, (r2.trans q2).trans p2⟩
theorem c_open {mc : Mem} {K : KX} (I : CI mc K) (v i : Int32) : ∃ mc', F9_open v i mc = some (aOpen K v i, mc') ∧ FC mc mc' ∧ CI mc' K := by
  unfold F9_open aOpen
  simp only [f9_b]
  by_cases c1 : 0 ≤ v ∧ v < 8
  · simp only [if_pos c1]
    obtain ⟨t, ht, rfl⟩ := i_of (b := 8) (by decide) c1
    rw [nI_clamp (show t < 2 ^ 31 by omega)]
    obtain ⟨M, r1, r2⟩ := c_open25 I.1 ht i
    by_cases c2 : i = -1
    · rw [if_pos c2, if_pos (Or.inl c2)]
      exact ⟨M, r1, FC.of r2 (by omega), I.fi r2⟩
    · rw [if_neg c2]
      by_cases c3 : 0 ≤ i ∧ i < 2
      · rw [if_pos c3, if_pos (Or.inr c3)]
        exact ⟨M, r1, FC.of r2 (by omega), I.fi r2⟩
      · rw [if_neg c3, if_neg (fun z => z.elim c2 c3)]
        exact ⟨mc, rfl, FC.refl mc, I⟩
  · simp only [if_neg c1]
    exact ⟨mc, rfl, FC.refl mc, I⟩
