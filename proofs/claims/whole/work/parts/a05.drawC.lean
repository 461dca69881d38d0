/-! the class: what was drawn -/
/-- all that was drawn comes out so -/
def comesB (W : KW) (H : KH) (ns : Nat) (SS : Nat → KS) (nd : Nat) (DR : EV) : Bool := allB (fun d => decide (DR.2.1 d < ns) && ((lifS W H (SS (DR.2.1 d)) (DR.1 d + 1)).2.2.2.2 == DR.2.2 d)) nd
theorem c_comes {mc : Mem} {K : KX} {W : KW} {H : KH} {v u : Nat} {v3 v4 : Int32} {SX : Nat → KS} (C : CB mc K) (w : CW mc v W.1 W.2.1 W.2.2) (wk : CK mc v W.1 W.2.2 W.1) (g : CH mc u H) (sv : v + 4 < 92) (su : u + 3 < 92) (hS : ∀ p, p < K.2.2.1.1 → (SX p).1 = (K.2.2.1.2.1 p).1 ∧ (SX p).2.1 = (K.2.2.1.2.1 p).2.1 ∧ (SX p).2.2.2 = (K.2.2.1.2.1 p).2.2.2 ∧ KO (SX p) ∧ (nI p = v3 → v4 = nI (SX p).2.2.1) ∧ (¬ nI p = v3 → (SX p).2.2.1 = (K.2.2.1.2.1 p).2.2.1)) : ∃ mc', F9_comesOut v u v3 v4 mc = some (b2i (comesB W H K.2.2.1.1 SX K.2.2.2.1 K.2.2.2.2), mc') ∧ FI 92 97 mc mc' := by
  have n8 := C.n8
  have d8 := C.2.2.2.1
  unfold F9_comesOut
  refine lpF (fun n (s : Int32 × Mem) => F9_comesOut_h3 v u v3 v4 n s.1 s.2) (fun d s => s.1 = nI d ∧ FI 92 97 mc s.2 ∧ comesB W H K.2.2.1.1 SX d K.2.2.2.2 = true) (fun r => ∃ mc', r = some (b2i (comesB W H K.2.2.1.1 SX K.2.2.2.1 K.2.2.2.2), mc') ∧ FI 92 97 mc mc') K.2.2.2.1 (by omega) ?_ ?_ (0, mc) ⟨rfl, FI.refl _ _ _, rfl⟩
  · rintro n d ⟨x, M1⟩ hd ⟨e1, f, a⟩
    dsimp only at e1 f
    subst e1
    have C1 : CB M1 K := C.fc (FC.of f (by omega))
    obtain ⟨⟨b1, b2, b3⟩, l1, l2, l3⟩ := C1.2.2.2.2.2 d hd
    generalize hk : K.2.2.2.2.2.1 d = k at b2 l2
    have hb : comesB W H K.2.2.1.1 SX (d + 1) K.2.2.2.2 = (comesB W H K.2.2.1.1 SX d K.2.2.2.2 && (decide (k < K.2.2.1.1) && ((lifS W H (SX k) (K.2.2.2.2.1 d + 1)).2.2.2.2 == K.2.2.2.2.2.2 d))) := by
      unfold comesB
      rw [allB_s, hk]
    have head : F9_comesOut_h3 v u v3 v4 (n + 1) (nI d) M1 = if k < K.2.2.1.1 then (if nI k = v3 then F9_comesOut_b87 (F9_comesOut_h3 v u v3 v4 n) v u v3 v4 (nI d) 92 v u 11 (nI k) (M1 13 k) v4 M1 else F9_comesOut_b87 (F9_comesOut_h3 v u v3 v4 n) v u v3 v4 (nI d) 92 v u 11 (nI k) (M1 13 k) (M1 14 k) M1) else some (0, M1) := by
      show F9_comesOut_p3 _ _ _ _ _ (nI d) M1 = _
      unfold F9_comesOut_p3
      rw [C1.2.2.2.2.1, if_neg (nI_ge hd (by omega)), ckI (show d < 8 by omega) (by decide), nI_clamp (show d < 2 ^ 31 by omega), b2, C1.2.2.1.2.1, f9_b, nI_clamp (show k < 2 ^ 31 by omega), ckI (show k < 8 by omega) (by decide), ckI (show k < 8 by omega) (by decide)]
      by_cases c : k < K.2.2.1.1
      · rw [if_pos (of_i c (by omega)), if_pos c]
      · rw [if_neg (fun z => c ((ltI (by omega) (by omega)).mp z.2)), if_neg c]
    by_cases c : k < K.2.2.1.1
    · obtain ⟨⟨a1, a2, a3, a4, -⟩, ko⟩ := C1.2.2.1.2.2 k c
      obtain ⟨s1, s2, s3, s4, s5, s6⟩ := hS k c
      obtain ⟨M2, q1, q2, q3⟩ := f4_follow (q := 92) (p := k) (S := SX k) (w.fi f (by omega)) (wk.fi f (by omega)) (g.fi f (by omega)) (by omega) (by omega) (by omega) (by omega) (by rw [s1]; exact a1) (by rw [s3]; exact a4) s4
      have e : F9_comesOut_h3 v u v3 v4 (n + 1) (nI d) M1 = F9_comesOut_b87 (F9_comesOut_h3 v u v3 v4 n) v u v3 v4 (nI d) 92 v u 11 (nI k) (nI (SX k).2.1) (nI (SX k).2.2.1) M1 := by
        rw [head, if_pos c, a2, s2]
        by_cases c2 : nI k = v3
        · rw [if_pos c2, s5 c2]
        · rw [if_neg c2, s6 c2, a3]
      have F := q3.1 (K.2.2.2.2.1 d) l1
      have O := lifS_O (W := W) (H := H) s4.l64 (K.2.2.2.2.1 d + 1)
      have o5 := O.2.2.2.2
      have e2 : F9_comesOut_h3 v u v3 v4 (n + 1) (nI d) M1 = if (lifS W H (SX k) (K.2.2.2.2.1 d + 1)).2.2.2.2 = K.2.2.2.2.2.2 d then F9_comesOut_h3 v u v3 v4 n (nI (d + 1)) M2 else some (0, M2) := by
        rw [e]
        unfold F9_comesOut_b87
        rw [q1, Option.bind_some, show M2 22 (nI d).toNatClampNeg = nI (K.2.2.2.2.1 d) from by rw [nI_clamp (show d < 2 ^ 31 by omega), q2 22 (by omega)]; exact b1, show M2 24 (nI d).toNatClampNeg = nI (K.2.2.2.2.2.2 d) from by rw [nI_clamp (show d < 2 ^ 31 by omega), q2 24 (by omega)]; exact b3, ckI (show d < 8 by omega) (by decide), ckI (show d < 8 by omega) (by decide), ckI l1 (by decide), nI_clamp (show K.2.2.2.2.1 d < 2 ^ 31 by omega), show M2 95 (K.2.2.2.2.1 d) = _ from F.2.2.1, nI_1 d]
        simp only [eqI (show (lifS W H (SX k) (K.2.2.2.2.1 d + 1)).2.2.2.2 < 2 ^ 31 by omega) (show K.2.2.2.2.2.2 d < 2 ^ 31 by omega)]
      by_cases c3 : (lifS W H (SX k) (K.2.2.2.2.1 d + 1)).2.2.2.2 = K.2.2.2.2.2.2 d
      · left
        refine ⟨(nI (d + 1), M2), by rw [if_pos c3] at e2; exact e2, rfl, f.trans q2, ?_⟩
        rw [hb, a, decide_eq_true c, c3]; simp
      · right
        refine ⟨M2, ?_, f.trans q2⟩
        rw [if_neg c3] at e2
        show F9_comesOut_h3 v u v3 v4 (n + 1) (nI d) M1 = _
        unfold comesB
        rw [e2, allB_f (j := d) (by rw [hk, beqf c3, Bool.and_false]) hd]
        rfl
    · right
      refine ⟨M1, ?_, f⟩
      show F9_comesOut_h3 v u v3 v4 (n + 1) (nI d) M1 = _
      unfold comesB
      rw [head, if_neg c, allB_f (j := d) (by rw [hk, decide_eq_false c, Bool.false_and]) hd]
      rfl
  · rintro n ⟨x, M1⟩ ⟨e1, f, a⟩
    dsimp only at e1 f
    subst e1
    have C1 : CB M1 K := C.fc (FC.of f (by omega))
    refine ⟨M1, ?_, f⟩
    show F9_comesOut_p3 _ _ _ _ _ (nI K.2.2.2.1) M1 = _
    unfold F9_comesOut_p3
    rw [C1.2.2.2.2.1, if_pos (nI_le (Nat.le_refl _) (by omega)), a]
    rfl
theorem none_ne {p : Nat} (h : p < 8) : ¬ nI p = -1 := nI_ne1 (by omega)
theorem c_comesN {mc : Mem} {K : KX} {W : KW} {H : KH} {v u : Nat} (C : CB mc K) (w : CW mc v W.1 W.2.1 W.2.2) (wk : CK mc v W.1 W.2.2 W.1) (g : CH mc u H) (sv : v + 4 < 92) (su : u + 3 < 92) : ∃ mc', F9_comesOut v u (-1) (-1) mc = some (b2i (comesB W H K.2.2.1.1 K.2.2.1.2.1 K.2.2.2.1 K.2.2.2.2), mc') ∧ FI 92 97 mc mc' :=
  c_comes C w wk g sv su (fun p hp => ⟨rfl, rfl, rfl, (C.2.2.1.2.2 p hp).2, fun z => absurd z (none_ne (by have := C.n8; omega)), fun _ => rfl⟩)
def neverB (K : KX) (e : Nat) : Bool := comesB K.1 (HK K.2.1.1 K.2.1.2 (fun i => !(i == e))) K.2.2.1.1 K.2.2.1.2.1 K.2.2.2.1 K.2.2.2.2
def aNever (K : KX) : Int32 := nI (bitsN (neverB K) K.2.1.2)
theorem c_never {mc : Mem} {K : KX} (I : CI mc K) : ∃ mc', F9_never mc = some (aNever K, mc') ∧ FC mc mc' ∧ CI mc' K := by
  have C := I.1
  have e8 := C.e8
  suffices h : ∃ mc', F9_never mc = some (aNever K, mc') ∧ FI 79 100 mc mc' by
    obtain ⟨mc', q1, q2⟩ := h
    exact ⟨mc', q1, FC.of q2 (by omega), I.fi q2⟩
  unfold F9_never
  refine lpF (fun n (s : Int32 × Int32 × Mem) => F9_never_h4 n s.1 s.2.1 s.2.2) (fun e s => s.1 = nI (bitsN (neverB K) e) ∧ s.2.1 = nI e ∧ FI 79 100 mc s.2.2) (fun r => ∃ mc', r = some (aNever K, mc') ∧ FI 79 100 mc mc') K.2.1.2 (by omega) ?_ ?_ (0, 0, mc) ⟨rfl, rfl, FI.refl _ _ _⟩
  · rintro n e ⟨x, y, M1⟩ he ⟨e1, e2, f⟩
    dsimp only at e1 e2 f
    subst e1 e2
    left
    have C1 : CB M1 K := C.fc (FC.of f (by omega))
    obtain ⟨M2, r1, r2, r3⟩ := f3_fill (u := 84) C1.2.1 (by omega) (mask_one e (by omega))
    have C2 : CB M2 K := C1.fc (FC.of r2 (by omega))
    obtain ⟨M3, q1, q2⟩ := c_comesN C2 C2.1.1 C2.1.2 r3 (by omega) (by omega)
    refine ⟨(nI (bitsN (neverB K) (e + 1)), nI (e + 1), M3), ?_, rfl, rfl, (f.trans (r2.mono (by omega) (by omega))).trans (q2.mono (by omega) (by omega))⟩
    show F9_never_p4 _ (nI (bitsN (neverB K) e)) (nI e) M1 = _
    unfold F9_never_p4 F9_never_b56
    rw [C1.2.1.2.1, if_neg (nI_ge he (by omega)), r1, Option.bind_some, q1, Option.bind_some, nI_1 e]
    show (if b2i (neverB K e) = 0 then _ else _) = _
    cases c : neverB K e with
    | false => rw [if_pos (show b2i false = 0 from rfl), bits_skip (neverB K) c]
    | true => rw [if_neg (show ¬ b2i true = 0 by decide), bits_step (neverB K) (by omega) c]
  · rintro n ⟨x, y, M1⟩ ⟨e1, e2, f⟩
    dsimp only at e1 e2 f
    subst e1 e2
    refine ⟨M1, ?_, f⟩
    show F9_never_p4 _ (nI (bitsN (neverB K) K.2.1.2)) (nI K.2.1.2) M1 = _
    unfold F9_never_p4
    rw [(C.fc (FC.of f (by omega))).2.1.2.1, if_pos (nI_le (Nat.le_refl _) (by omega))]
    rfl
def bckS (SS : Nat → KS) (p b q : Nat) : KS := if q = p then buckS (SS q) b else SS q
def bckB (K : KX) (p b : Nat) : Bool := comesB K.1 (H0 K) K.2.2.1.1 (bckS K.2.2.1.2.1 p b) K.2.2.2.1 K.2.2.2.2
def aBucketOf (K : KX) (p : Nat) : Int32 := nI (bitsN (bckB K p) 2)
def aBucket (K : KX) (v : Int32) : Int32 := if 0 ≤ v ∧ v < nI K.2.2.1.1 then aBucketOf K v.toNatClampNeg else -2
theorem c_bucket {mc : Mem} {K : KX} (I : CI mc K) (v : Int32) : ∃ mc', F9_bucket v mc = some (aBucket K v, mc') ∧ FC mc mc' ∧ CI mc' K := by
  have n8 := I.1.n8
  unfold F9_bucket aBucket
  rw [I.1.2.2.1.2.1, f9_b]
  by_cases c : 0 ≤ v ∧ v < nI K.2.2.1.1
  · rw [if_pos c, if_pos c]
    obtain ⟨p, hp, rfl⟩ := i_of (by omega) c
    obtain ⟨M, r1, r2, r3, -, -⟩ := f9_refresh I
    rw [r1, Option.bind_some, nI_clamp (show p < 2 ^ 31 by omega)]
    suffices h : ∃ mc', F9_bucket_h25 (nI p) FU 0 0 M = some (aBucketOf K p, mc') ∧ FI 92 97 M mc' by
      obtain ⟨mc', q1, q2⟩ := h
      exact ⟨mc', q1, r2.trans (FC.of q2 (by omega)), (r3.fi (q2.mono (by omega) (by omega))).ci⟩
    refine lpF (fun n (s : Int32 × Int32 × Mem) => F9_bucket_h25 (nI p) n s.1 s.2.1 s.2.2) (fun b s => s.1 = nI (bitsN (bckB K p) b) ∧ s.2.1 = nI b ∧ FI 92 97 M s.2.2) (fun r => ∃ mc', r = some (aBucketOf K p, mc') ∧ FI 92 97 M mc') 2 (by decide) ?_ ?_ (0, 0, M) ⟨rfl, rfl, FI.refl _ _ _⟩
    · rintro n b ⟨x, y, M1⟩ hb ⟨e1, e2, f⟩
      dsimp only at e1 e2 f
      subst e1 e2
      left
      have C1 : CB M1 K := r3.1.fc (FC.of f (by omega))
      obtain ⟨M3, q1, q2⟩ := c_comes (v3 := nI p) (v4 := nI b) (SX := bckS K.2.2.1.2.1 p b) C1 C1.1.1 C1.1.2 (r3.2.1.1.fi f (by omega)) (by omega) (by omega) (fun q hq => by
        have ko := (C1.2.2.1.2.2 q hq).2
        unfold bckS
        by_cases e : q = p
        · subst e
          rw [if_pos rfl]
          exact ⟨rfl, rfl, rfl, ko.buck hb, fun _ => rfl, fun z => absurd rfl z⟩
        · rw [if_neg e]
          exact ⟨rfl, rfl, rfl, ko, fun z => absurd ((nI_eq (by omega) (by omega)).mp z) e, fun _ => rfl⟩)
      refine ⟨(nI (bitsN (bckB K p) (b + 1)), nI (b + 1), M3), ?_, rfl, rfl, f.trans q2⟩
      show F9_bucket_p25 _ _ (nI (bitsN (bckB K p) b)) (nI b) M1 = _
      unfold F9_bucket_p25 F9_bucket_b53
      rw [if_neg (show ¬ (2 : Int32) ≤ nI b from nI_ge (b := 2) hb (by decide)), q1, Option.bind_some, nI_1 b]
      show (if b2i (bckB K p b) = 0 then _ else _) = _
      cases c : bckB K p b with
      | false => rw [if_pos (show b2i false = 0 from rfl), bits_skip (bckB K p) c]
      | true => rw [if_neg (show ¬ b2i true = 0 by decide), bits_step (bckB K p) (by omega) c]
    · rintro n ⟨x, y, M1⟩ ⟨e1, e2, f⟩
      dsimp only at e1 e2 f
      subst e1 e2
      exact ⟨M1, rfl, f⟩
  · rw [if_neg c, if_neg c]
    exact ⟨mc, rfl, FC.refl mc, I⟩
