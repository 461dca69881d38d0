/-! the class: other wells; stone, stood -/
def setF (f : Nat → Nat) (k x : Nat) : Nat → Nat := fun i => if i = k then x else f i
theorem setF_s (f : Nat → Nat) (k x : Nat) : setF f k x k = x := if_pos rfl
theorem setF_n {f : Nat → Nat} {k x i : Nat} (h : ¬ i = k) : setF f k x i = f i := if_neg h
theorem setF_2 (f : Nat → Nat) (k x y : Nat) : setF (setF f k x) k y = setF f k y := by
  funext i
  by_cases h : i = k
  · subst h; rw [setF_s, setF_s]
  · rw [setF_n h, setF_n h, setF_n h]
theorem setF_id (f : Nat → Nat) (k : Nat) : setF f k (f k) = f := by
  funext i
  by_cases h : i = k
  · subst h; rw [setF_s]
  · rw [setF_n h]
theorem FrR.fi {v : Nat} {a b : Mem} (h : FrR v a b) : FI v (v + 5) a b := fun k hk => h.1 k (by omega) (by omega) (by omega)
theorem f8_become {mc : Mem} {W : KW} (C : CW mc 6 W.1 W.2.1 W.2.2) : ∃ mc', F8_become 79 6 mc = some mc' ∧ FI 79 84 mc mc' ∧ CW mc' 79 W.1 W.2.1 W.2.2 ∧ CK mc' 79 W.1 W.2.2 W.1 := by
  have h8 := C.1
  unfold F8_become
  refine lpF (fun n (s : Int32 × Mem) => F8_become_h10 (F8_become_b48 79 6) 79 6 n s.1 s.2) (fun w s => s.1 = nI w ∧ FI 79 84 mc s.2 ∧ s.2 79 4 = nI W.1 ∧ ∀ k, k < w → s.2 80 k = nI (W.2.1 k) ∧ s.2 81 k = nI (W.2.2 k)) (fun r => ∃ mc', r = some mc' ∧ FI 79 84 mc mc' ∧ CW mc' 79 W.1 W.2.1 W.2.2 ∧ CK mc' 79 W.1 W.2.2 W.1) W.1 (by omega) ?_ ?_ (0, mset mc 79 4 (mc 6 4)) ⟨rfl, (FI.refl _ _ _).set _ _ _ (by omega), (mset_s mc 79 4 (mc 6 4)).trans C.2.1, fun k hk => by omega⟩
  · rintro n w ⟨x, M⟩ hw ⟨e, f, g, a⟩
    dsimp only at e f g a
    subst e
    left
    obtain ⟨w1, w2, -, -⟩ := C.2.2 w hw
    refine ⟨(nI (w + 1), mset (mset M 80 w (nI (W.2.1 w))) 81 w (nI (W.2.2 w))), ?_, rfl, (f.set _ _ _ (by omega)).set _ _ _ (by omega), ?_, fun k hk => ?_⟩
    · show F8_become_p10 _ _ 79 6 (nI w) M = _
      unfold F8_become_p10
      simp only [lt]
      rw [g, if_neg (nI_ge hw (by omega)), ckI (show w < 8 by omega) (by decide), ckI (show w < 8 by omega) (by decide), ckI (show w < 8 by omega) (by decide), ckI (show w < 8 by omega) (by decide), nI_clamp (show w < 2 ^ 31 by omega), nI_1, show M (6 + 1) w = nI (W.2.1 w) from by rw [f (6 + 1) (by omega)]; exact w1, show (mset M (79 + 1) w (nI (W.2.1 w))) (6 + 2) w = nI (W.2.2 w) from by rw [mset_n (by decide), f (6 + 2) (by omega)]; exact w2]
    · dsimp only
      rw [mset_n (by decide), mset_n (by decide)]; exact g
    · dsimp only
      by_cases e : k = w
      · subst e
        exact ⟨by rw [mset_n (by decide), mset_s], mset_s _ _ _ _⟩
      · obtain ⟨a1, a2⟩ := a k (by omega)
        exact ⟨by rw [mset_n (by decide), mset_o e]; exact a1, by rw [mset_o e, mset_n (by decide)]; exact a2⟩
  · rintro n ⟨x, M⟩ ⟨e, f, g, a⟩
    dsimp only at e f g a
    subst e
    have C1 : CW M 79 W.1 W.2.1 W.2.2 := ⟨h8, g, fun k hk => by
      obtain ⟨-, -, l1, l2⟩ := C.2.2 k hk
      obtain ⟨a1, a2⟩ := a k hk
      exact ⟨a1, a2, l1, l2⟩⟩
    obtain ⟨M', r1, r2, r3⟩ := f8_rank C1
    refine ⟨M', ?_, f.trans r2.fi, C1.fr r2, r3⟩
    show F8_become_p10 _ _ 79 6 (nI W.1) M = _
    unfold F8_become_p10 F8_become_b48
    rw [g, if_pos (nI_le (Nat.le_refl _) (by omega)), r1]
    rfl
theorem f8_raise {mc : Mem} {nw : Nat} {st ht : Nat → Nat} (C : CW mc 79 nw st ht) {k x : Nat} (hk : k < nw) (hx : x < 10) : ∃ mc', F8_raise 79 (nI k) (nI x) mc = some mc' ∧ FI 79 84 mc mc' ∧ CW mc' 79 nw st (setF ht k x) ∧ CK mc' 79 nw (setF ht k x) nw := by
  have h8 := C.1
  have C1 : CW (mset mc (79 + 2) k (nI x)) 79 nw st (setF ht k x) := ⟨h8, by rw [mset_n (by decide)]; exact C.2.1, fun j hj => by
    obtain ⟨a1, a2, l1, l2⟩ := C.2.2 j hj
    by_cases e : j = k
    · subst e
      exact ⟨by rw [mset_n (by decide)]; exact a1, by rw [mset_s, setF_s], l1, by rw [setF_s]; exact hx⟩
    · exact ⟨by rw [mset_n (by decide)]; exact a1, by rw [mset_o e, setF_n e]; exact a2, l1, by rw [setF_n e]; exact l2⟩⟩
  obtain ⟨M', r1, r2, r3⟩ := f8_rank C1
  refine ⟨M', ?_, ((FI.refl 79 84 mc).set (79 + 2) k (nI x) (by omega)).trans r2.fi, C1.fr r2, r3⟩
  unfold F8_raise F8_raise_b18
  rw [C.2.1, f9_b, if_pos (of_i hk (by omega)), ckI (show k < 8 by omega) (by decide), nI_clamp (show k < 2 ^ 31 by omega), r1]
  rfl
def stoneB (K : KX) (k x : Nat) : Bool := comesB (K.1.1, setF K.1.2.1 k x, K.1.2.2) (H0 K) K.2.2.1.1 K.2.2.1.2.1 K.2.2.2.1 K.2.2.2.2
def stoodW (W : KW) (k x : Nat) : KW := (W.1, W.2.1, setF W.2.2 k x)
def stoodB (K : KX) (k x : Nat) : Bool := comesB (stoodW K.1 k x) (H0 K) K.2.2.1.1 K.2.2.1.2.1 K.2.2.2.1 K.2.2.2.2
def aStoneOf (K : KX) (k : Nat) (v : Int32) : Int32 := if v = 0 then nI (bitsN (stoneB K k) 3) else nI (bitsN (stoodB K k) 10)
theorem c_stones {mc : Mem} {K : KX} (I : CF mc K) {k : Nat} (hk : k < K.1.1) : ∃ mc', F9_stonesOf (nI k) mc = some (nI (bitsN (stoneB K k) 3), mc') ∧ FI 79 100 mc mc' := by
  have h8 := I.1.w8
  unfold F9_stonesOf
  obtain ⟨M, r1, r2, r3, r4⟩ := f8_become I.1.1.1
  rw [r1, Option.bind_some]
  refine lpF (fun n (s : Int32 × Int32 × Mem) => F9_stonesOf_h15 (nI k) n s.1 s.2.1 s.2.2) (fun b s => s.1 = nI (bitsN (stoneB K k) b) ∧ s.2.1 = nI b ∧ FI 79 100 mc s.2.2 ∧ (∃ y, CW s.2.2 79 K.1.1 (setF K.1.2.1 k y) K.1.2.2) ∧ CK s.2.2 79 K.1.1 K.1.2.2 K.1.1) (fun r => ∃ mc', r = some (nI (bitsN (stoneB K k) 3), mc') ∧ FI 79 100 mc mc') 3 (by decide) ?_ ?_ (0, 0, M) ⟨rfl, rfl, r2.mono (by omega) (by omega), ⟨K.1.2.1 k, by rw [setF_id]; exact r3⟩, r4⟩
  · rintro n b ⟨x, y, M1⟩ hb ⟨e1, e2, f, ⟨z, w⟩, wk⟩
    dsimp only at e1 e2 f w wk
    subst e1 e2
    left
    have w1 : CW (mset M1 (79 + 1) k (nI b)) 79 K.1.1 (setF K.1.2.1 k b) K.1.2.2 := ⟨h8, by rw [mset_n (by decide)]; exact w.2.1, fun j hj => by
      obtain ⟨a1, a2, l1, l2⟩ := w.2.2 j hj
      by_cases e : j = k
      · subst e
        exact ⟨by rw [mset_s, setF_s], by rw [mset_n (by decide)]; exact a2, by rw [setF_s]; exact hb, l2⟩
      · rw [setF_n e] at a1 l1
        exact ⟨by rw [mset_o e, setF_n e]; exact a1, by rw [mset_n (by decide)]; exact a2, by rw [setF_n e]; exact l1, l2⟩⟩
    have k1 : CK (mset M1 (79 + 1) k (nI b)) 79 K.1.1 K.1.2.2 K.1.1 := wk.fr0 (by rw [mset_n (by decide)]) (by rw [mset_n (by decide)]) (by rw [mset_n (by decide)])
    have f1 : FI 79 100 mc (mset M1 (79 + 1) k (nI b)) := f.set _ _ _ (by omega)
    have C1 := I.fi f1
    obtain ⟨M3, q1, q2⟩ := c_comesN (W := (K.1.1, setF K.1.2.1 k b, K.1.2.2)) C1.1 w1 k1 C1.2.1.1 (by omega) (by omega)
    refine ⟨(nI (bitsN (stoneB K k) (b + 1)), nI (b + 1), M3), ?_, rfl, rfl, f1.trans (q2.mono (by omega) (by omega)), ⟨b, w1.fi q2 (by omega)⟩, k1.fi q2 (by omega)⟩
    show F9_stonesOf_p15 _ _ (nI (bitsN (stoneB K k) b)) (nI b) M1 = _
    unfold F9_stonesOf_p15 F9_stonesOf_b53
    simp only [lt]
    rw [if_neg (show ¬ (3 : Int32) ≤ nI b from nI_ge (b := 3) hb (by decide)), ckI (show k < 8 by omega) (by decide), nI_clamp (show k < 2 ^ 31 by omega), show (80 : Nat) = 79 + 1 from rfl, q1, Option.bind_some, nI_1 b]
    show (if b2i (stoneB K k b) = 0 then _ else _) = _
    cases c : stoneB K k b with
    | false => rw [if_pos (show b2i false = 0 from rfl), bits_skip (stoneB K k) c]
    | true => rw [if_neg (show ¬ b2i true = 0 by decide), bits_step (stoneB K k) (by omega) c]
  · rintro n ⟨x, y, M1⟩ ⟨e1, e2, f, -⟩
    dsimp only at e1 e2 f
    subst e1 e2
    exact ⟨M1, rfl, f⟩
theorem c_heights {mc : Mem} {K : KX} (I : CF mc K) {k : Nat} (hk : k < K.1.1) : ∃ mc', F9_heightsOf (nI k) mc = some (nI (bitsN (stoodB K k) 10), mc') ∧ FI 79 100 mc mc' := by
  have h8 := I.1.w8
  unfold F9_heightsOf
  obtain ⟨M, r1, r2, r3, r4⟩ := f8_become I.1.1.1
  rw [r1, Option.bind_some]
  refine lpF (fun n (s : Int32 × Int32 × Mem) => F9_heightsOf_h15 (nI k) n s.1 s.2.1 s.2.2) (fun b s => s.1 = nI (bitsN (stoodB K k) b) ∧ s.2.1 = nI b ∧ FI 79 100 mc s.2.2 ∧ (∃ y, CW s.2.2 79 K.1.1 K.1.2.1 (setF K.1.2.2 k y))) (fun r => ∃ mc', r = some (nI (bitsN (stoodB K k) 10), mc') ∧ FI 79 100 mc mc') 10 (by decide) ?_ ?_ (0, 0, M) ⟨rfl, rfl, r2.mono (by omega) (by omega), ⟨K.1.2.2 k, by rw [setF_id]; exact r3⟩⟩
  · rintro n b ⟨x, y, M1⟩ hb ⟨e1, e2, f, ⟨z, w⟩⟩
    dsimp only at e1 e2 f w
    subst e1 e2
    left
    obtain ⟨M2, p1, p2, w1, k1⟩ := f8_raise w hk hb
    rw [setF_2] at w1 k1
    have f1 : FI 79 100 mc M2 := f.trans (p2.mono (by omega) (by omega))
    have C1 := I.fi f1
    obtain ⟨M3, q1, q2⟩ := c_comesN (W := stoodW K.1 k b) C1.1 w1 k1 C1.2.1.1 (by omega) (by omega)
    refine ⟨(nI (bitsN (stoodB K k) (b + 1)), nI (b + 1), M3), ?_, rfl, rfl, f1.trans (q2.mono (by omega) (by omega)), ⟨b, w1.fi q2 (by omega)⟩⟩
    show F9_heightsOf_p15 _ _ (nI (bitsN (stoodB K k) b)) (nI b) M1 = _
    unfold F9_heightsOf_p15 F9_heightsOf_b53
    rw [if_neg (show ¬ (10 : Int32) ≤ nI b from nI_ge (b := 10) hb (by decide)), p1, Option.bind_some, q1, Option.bind_some, nI_1 b]
    show (if b2i (stoodB K k b) = 0 then _ else _) = _
    cases c : stoodB K k b with
    | false => rw [if_pos (show b2i false = 0 from rfl), bits_skip (stoodB K k) c]
    | true => rw [if_neg (show ¬ b2i true = 0 by decide), bits_step (stoodB K k) (by omega) c]
  · rintro n ⟨x, y, M1⟩ ⟨e1, e2, f, -⟩
    dsimp only at e1 e2 f
    subst e1 e2
    exact ⟨M1, rfl, f⟩
def aStone (K : KX) (v1 v2 : Int32) : Int32 := if 0 ≤ v1 ∧ v1 < nI K.1.1 then (if 0 ≤ v2 ∧ v2 < 2 then aStoneOf K v1.toNatClampNeg v2 else -2) else -2
theorem c_stone {mc : Mem} {K : KX} (I : CI mc K) (v1 v2 : Int32) : ∃ mc', F9_stone v1 v2 mc = some (aStone K v1 v2, mc') ∧ FC mc mc' ∧ CI mc' K := by
  have h8 := I.1.w8
  unfold F9_stone aStone
  rw [I.1.1.1.2.1]
  simp only [f9_b]
  by_cases c1 : 0 ≤ v1 ∧ v1 < nI K.1.1
  · by_cases c2 : 0 ≤ v2 ∧ v2 < 2
    · simp only [if_pos c1, if_pos c2]
      obtain ⟨k, hk, rfl⟩ := i_of (by omega) c1
      obtain ⟨M, r1, r2, r3, -, -⟩ := f9_refresh I
      rw [r1, Option.bind_some, nI_clamp (show k < 2 ^ 31 by omega)]
      unfold aStoneOf
      by_cases z : v2 = 0
      · rw [if_pos z, if_pos z]
        obtain ⟨mc', q1, q2⟩ := c_stones r3 hk
        exact ⟨mc', by rw [q1]; rfl, r2.trans (FC.of q2 (by omega)), (r3.fi q2).ci⟩
      · rw [if_neg z, if_neg z]
        obtain ⟨mc', q1, q2⟩ := c_heights r3 hk
        exact ⟨mc', by rw [q1]; rfl, r2.trans (FC.of q2 (by omega)), (r3.fi q2).ci⟩
    · simp only [if_pos c1, if_neg c2]
      exact ⟨mc, rfl, FC.refl mc, I⟩
  · simp only [if_neg c1]
    exact ⟨mc, rfl, FC.refl mc, I⟩
