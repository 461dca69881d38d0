/-! the class: ask -/
theorem f7_fill {mc : Mem} {a n : Nat} (v : Int32) (hl : ln a = n) (hn : n < 1000) : ∃ mc', F7_fill_53178 a v mc = some mc' ∧ (∀ k, k ≠ a → mc' k = mc k) ∧ ∀ i, i < n → mc' a i = v := by
  unfold F7_fill_53178
  rw [hl]
  refine lpF (fun m (s : Int32 × Mem) => F7_fill_53178_h5 a v m s.1 (nI n) s.2) (fun i s => s.1 = nI i ∧ (∀ k, k ≠ a → s.2 k = mc k) ∧ ∀ j, j < i → s.2 a j = v) (fun r => ∃ mc', r = some mc' ∧ (∀ k, k ≠ a → mc' k = mc k) ∧ ∀ i, i < n → mc' a i = v) n (by omega) ?_ ?_ (0, mc) ⟨rfl, fun _ _ => rfl, fun j hj => by omega⟩
  · rintro m i ⟨x, M⟩ hi ⟨e, f, g⟩
    dsimp only at e f g
    subst e
    left
    refine ⟨(nI (i + 1), mset M a i v), ?_, rfl, fun k hk => by dsimp only; rw [mset_n hk]; exact f k hk, fun j hj => ?_⟩
    · show F7_fill_53178_p5 _ _ _ (nI i) (nI n) M = _
      unfold F7_fill_53178_p5
      rw [if_neg (nI_ge hi (by omega)), hl, ckI hi (by omega), nI_clamp (show i < 2 ^ 31 by omega), nI_1]
    · dsimp only
      by_cases c : j = i
      · subst c; exact mset_s _ _ _ _
      · rw [mset_o c]; exact g j (by omega)
  · rintro m ⟨x, M⟩ ⟨e, f, g⟩
    dsimp only at e f g
    subst e
    refine ⟨M, ?_, f, g⟩
    show F7_fill_53178_p5 _ _ _ (nI n) (nI n) M = _
    unfold F7_fill_53178_p5
    rw [if_pos (nI_le (Nat.le_refl _) (by omega))]
def inB (K : KX) (k x h p : Nat) : Bool := (lifS (stoodW K.1 k x) (H0 K) (K.2.2.1.2.1 p) (h + 1)).1 == some k
def inN (K : KX) (k x h : Nat) : Nat := cntN (inB K k x h) K.2.2.1.1
theorem ciw_106 {K : KX} {k x p : Nat} {bits : Int32} {M : Mem} (kx : Int32 → Int32 → Mem → Option Mem) (hx : x < 10) (hk : k < K.1.1) (h8 : K.1.1 ≤ 8) (n8 : K.2.2.1.1 ≤ 8) (hp : p < K.2.2.1.1) (ko : KO (K.2.2.1.2.1 p)) (hM : ∀ h, h < 40 → M 93 h = en (lifS (stoodW K.1 k x) (H0 K) (K.2.2.1.2.1 p) (h + 1)).1) (h97 : ∀ h, h < 40 → M 97 (x * 40 + h) = nI (cntN (inB K k x h) p)) : ∃ M', F9_countInWell_h106 kx (nI k) bits FU (nI x) (nI p) 0 M = kx (nI x) (nI p) M' ∧ FI 97 98 M M' ∧ (∀ i, (i < x * 40 ∨ x * 40 + 40 ≤ i) → M' 97 i = M 97 i) ∧ ∀ h, h < 40 → M' 97 (x * 40 + h) = nI (cntN (inB K k x h) (p + 1)) := by
  refine lpF (fun n (s : Int32 × Mem) => F9_countInWell_h106 kx (nI k) bits n (nI x) (nI p) s.1 s.2) (fun j s => s.1 = nI j ∧ FI 97 98 M s.2 ∧ (∀ i, (i < x * 40 ∨ x * 40 + 40 ≤ i) → s.2 97 i = M 97 i) ∧ ∀ h, h < 40 → s.2 97 (x * 40 + h) = nI (cntN (inB K k x h) (if h < j then p + 1 else p))) (fun r => ∃ M', r = kx (nI x) (nI p) M' ∧ FI 97 98 M M' ∧ (∀ i, (i < x * 40 ∨ x * 40 + 40 ≤ i) → M' 97 i = M 97 i) ∧ ∀ h, h < 40 → M' 97 (x * 40 + h) = nI (cntN (inB K k x h) (p + 1))) 40 (by decide) ?_ ?_ (0, M) ⟨rfl, FI.refl _ _ _, fun _ _ => rfl, fun h hh => by rw [if_neg (by omega)]; exact h97 h hh⟩
  · rintro n h ⟨y, M1⟩ hh ⟨e, f, g, c⟩
    dsimp only at e f g c
    subst e
    left
    have ch := c h hh
    rw [if_neg (by omega)] at ch
    refine ⟨(nI (h + 1), mset M1 97 (x * 40 + h) (nI (cntN (inB K k x h) (p + 1)))), ?_, rfl, f.set _ _ _ (by omega), fun i hi => ?_, fun j hj => ?_⟩
    · show F9_countInWell_p106 _ _ _ _ (nI x) (nI p) (nI h) M1 = _
      have hv : ∀ s3, s3 = b2i (inB K k x h p) → F9_countInWell_b145 (F9_countInWell_h106 kx (nI k) bits n) kx (nI k) bits (nI x) (nI p) (nI h) 97 (nI (x * 40 + h)) (nI (cntN (inB K k x h) p)) s3 M1 = F9_countInWell_h106 kx (nI k) bits n (nI x) (nI p) (nI (h + 1)) (mset M1 97 (x * 40 + h) (nI (cntN (inB K k x h) (p + 1)))) := by
        rintro s3 rfl
        unfold F9_countInWell_b145
        rw [ckI (show x * 40 + h < 400 by omega) (by decide), nI_clamp (show x * 40 + h < 2 ^ 31 by omega), nI_1 h, ← b2n_i, nI_add]
        rfl
      unfold F9_countInWell_p106
      rw [if_neg (show ¬ (40 : Int32) ≤ nI h from nI_ge (b := 40) hh (by decide)), zr40, nI_add, ckI (show x * 40 + h < 400 by omega) (by decide), ckI hh (by decide), nI_clamp (show h < 2 ^ 31 by omega), nI_clamp (show x * 40 + h < 2 ^ 31 by omega), ch, f 93 (by omega), hM h hh]
      have := en_eqs (fun j hj => lif_lt (W := stoodW K.1 k x) ko hj) h8 (show k < 8 by omega) (o := (lifS (stoodW K.1 k x) (H0 K) (K.2.2.1.2.1 p) (h + 1)).1)
      simp only [this]
      by_cases z : (lifS (stoodW K.1 k x) (H0 K) (K.2.2.1.2.1 p) (h + 1)).1 = some k
      · rw [if_pos z]
        exact hv 1 (by unfold inB; rw [z]; simp; rfl)
      · rw [if_neg z]
        exact hv 0 (by unfold inB; rw [show ((lifS (stoodW K.1 k x) (H0 K) (K.2.2.1.2.1 p) (h + 1)).1 == some k) = false from by simpa using z]; rfl)
    · dsimp only
      rw [mset_o (by omega)]; exact g i hi
    · dsimp only
      by_cases z : j = h
      · subst z
        rw [mset_s, if_pos (by omega)]
      · rw [mset_o (by omega), c j hj]
        by_cases y : j < h
        · rw [if_pos y, if_pos (by omega)]
        · rw [if_neg y, if_neg (by omega)]
  · rintro n ⟨y, M1⟩ ⟨e, f, g, c⟩
    dsimp only at e f g c
    subst e
    exact ⟨M1, rfl, f, g, fun h hh => by rw [c h hh, if_pos hh]⟩
theorem ciw_50 {K : KX} {k x : Nat} {bits : Int32} {mc M : Mem} (kx : Int32 → Mem → Option Mem) (I : CF mc K) (f0 : FI 79 100 mc M) (hx : x < 10) (hk : k < K.1.1) (w : CW M 79 K.1.1 K.1.2.1 (setF K.1.2.2 k x)) (wk : CK M 79 K.1.1 (setF K.1.2.2 k x) K.1.1) (h97 : ∀ h, h < 40 → M 97 (x * 40 + h) = 0) : ∃ M', F9_countInWell_h50 kx (nI k) bits FU (nI x) 0 M = kx (nI x) M' ∧ FI 92 98 M M' ∧ (∀ i, (i < x * 40 ∨ x * 40 + 40 ≤ i) → M' 97 i = M 97 i) ∧ ∀ h, h < 40 → M' 97 (x * 40 + h) = nI (inN K k x h) := by
  have h8 := I.1.w8
  have n8 := I.1.n8
  refine lpF (fun n (s : Int32 × Mem) => F9_countInWell_h50 kx (nI k) bits n (nI x) s.1 s.2) (fun p s => s.1 = nI p ∧ FI 92 98 M s.2 ∧ (∀ i, (i < x * 40 ∨ x * 40 + 40 ≤ i) → s.2 97 i = M 97 i) ∧ ∀ h, h < 40 → s.2 97 (x * 40 + h) = nI (cntN (inB K k x h) p)) (fun r => ∃ M', r = kx (nI x) M' ∧ FI 92 98 M M' ∧ (∀ i, (i < x * 40 ∨ x * 40 + 40 ≤ i) → M' 97 i = M 97 i) ∧ ∀ h, h < 40 → M' 97 (x * 40 + h) = nI (inN K k x h)) K.2.2.1.1 (by omega) ?_ ?_ (0, M) ⟨rfl, FI.refl _ _ _, fun _ _ => rfl, fun h hh => h97 h hh⟩
  · rintro n p ⟨y, M1⟩ hp ⟨e, f, g, c⟩
    dsimp only at e f g c
    subst e
    left
    have I1 : CF M1 K := I.fi (f0.trans (f.mono (by omega) (by omega)))
    obtain ⟨⟨a1, a2, a3, a4, -⟩, ko⟩ := I1.1.2.2.1.2.2 p hp
    obtain ⟨M2, q1, q2, q3⟩ := f4_follow (W := stoodW K.1 k x) (q := 92) (p := p) (S := K.2.2.1.2.1 p) (w.fi f (by omega)) (wk.fi f (by omega)) I1.2.1.1 (by omega) (by omega) (by omega) (by omega) a1 a4 ko
    obtain ⟨M3, p1, p2, p3, p4⟩ := ciw_106 (bits := bits) (M := M2) (F9_countInWell_b153 (F9_countInWell_h50 kx (nI k) bits n) kx (nI k) bits) hx hk h8 n8 hp ko (fun h hh => (q3.1 h hh).1) (fun h hh => by rw [q2 97 (by omega)]; exact c h hh)
    refine ⟨(nI (p + 1), M3), ?_, rfl, (f.trans (q2.mono (by omega) (by omega))).trans (p2.mono (by omega) (by omega)), fun i hi => by dsimp only; rw [p3 i hi, q2 97 (by omega)]; exact g i hi, p4⟩
    show F9_countInWell_p50 _ _ _ _ (nI x) (nI p) M1 = _
    unfold F9_countInWell_p50
    rw [I1.1.2.2.1.2.1, if_neg (nI_ge hp (by omega)), ckI (show p < 8 by omega) (by decide), ckI (show p < 8 by omega) (by decide), nI_clamp (show p < 2 ^ 31 by omega), a2, a3, q1, Option.bind_some, p1]
    unfold F9_countInWell_b153
    rw [nI_1 p]
  · rintro n ⟨y, M1⟩ ⟨e, f, g, c⟩
    dsimp only at e f g c
    subst e
    have I1 : CF M1 K := I.fi (f0.trans (f.mono (by omega) (by omega)))
    refine ⟨M1, ?_, f, g, c⟩
    show F9_countInWell_p50 _ _ _ _ (nI x) (nI K.2.2.1.1) M1 = _
    unfold F9_countInWell_p50
    rw [I1.1.2.2.1.2.1, if_pos (nI_le (Nat.le_refl _) (by omega))]
theorem c_ciw {mc : Mem} {K : KX} (I : CF mc K) {k : Nat} (hk : k < K.1.1) (sm : Nat → Bool) : ∃ mc', F9_countInWell (nI k) (nI (bitsN sm 10)) mc = some mc' ∧ FI 79 100 mc mc' ∧ ∀ x h, x < 10 → h < 40 → mc' 97 (x * 40 + h) = nI (if sm x then inN K k x h else 0) := by
  have h8 := I.1.w8
  have n8 := I.1.n8
  unfold F9_countInWell
  obtain ⟨M0, s1, s2, s3⟩ := f7_fill (mc := mc) (a := 97) 0 (show ln 97 = 400 from rfl) (by decide)
  have g0 : FI 79 100 mc M0 := fun i hi => s2 i (by omega)
  obtain ⟨M, r1, r2, r3, r4⟩ := f8_become (I.fi g0).1.1.1
  rw [s1, Option.bind_some, r1, Option.bind_some]
  have hbit : ∀ x, x < 10 → (nI (bitsN sm 10) >>> (nI x &&& (31 : Int32))) &&& (1 : Int32) = b2i (sm x) := fun x hx => by
    rw [bit_nI (Nat.lt_of_lt_of_le (bitsN_lt sm 10) (by decide)) (by omega), bitsN_test sm 10 x hx]
  refine lpF (fun n (s : Int32 × Mem) => F9_countInWell_h21 (nI k) (nI (bitsN sm 10)) n s.1 s.2) (fun b s => s.1 = nI b ∧ FI 79 100 mc s.2 ∧ (∃ y, CW s.2 79 K.1.1 K.1.2.1 (setF K.1.2.2 k y)) ∧ (∀ x h, x < 10 → h < 40 → s.2 97 (x * 40 + h) = nI (if decide (x < b) && sm x then inN K k x h else 0))) (fun r => ∃ mc', r = some mc' ∧ FI 79 100 mc mc' ∧ ∀ x h, x < 10 → h < 40 → mc' 97 (x * 40 + h) = nI (if sm x then inN K k x h else 0)) 10 (by decide) ?_ ?_ (0, M) ⟨rfl, g0.trans (r2.mono (by omega) (by omega)), ⟨K.1.2.2 k, by rw [setF_id]; exact r3⟩, fun x h hx hh => by
    dsimp only
    rw [r2 97 (by omega), s3 _ (by omega), decide_eq_false (by omega)]; rfl⟩
  · rintro n b ⟨y, M1⟩ hb ⟨e, f, ⟨z, w⟩, c⟩
    dsimp only at e f w c
    subst e
    left
    have e2 : F9_countInWell_h21 (nI k) (nI (bitsN sm 10)) (n + 1) (nI b) M1 = if sm b then (F8_raise 79 (nI k) (nI b) M1).bind (fun q16 => ((F9_countInWell_h50 (F9_countInWell_b159 (F9_countInWell_h21 (nI k) (nI (bitsN sm 10)) n) (nI k) (nI (bitsN sm 10))) (nI k) (nI (bitsN sm 10)) FU) (nI b) (0 : Int32) q16)) else F9_countInWell_h21 (nI k) (nI (bitsN sm 10)) n (nI (b + 1)) M1 := by
      show F9_countInWell_p21 _ _ _ (nI b) M1 = _
      unfold F9_countInWell_p21
      rw [if_neg (show ¬ (10 : Int32) ≤ nI b from nI_ge (b := 10) hb (by decide)), hbit b hb]
      cases sm b with
      | false => rw [if_pos (show b2i false = 0 from rfl), if_neg (by decide)]; unfold F9_countInWell_b159; rw [nI_1 b]
      | true => rw [if_neg (show ¬ b2i true = 0 by decide), if_pos rfl]
    cases hs : sm b with
    | false =>
      rw [hs, if_neg (by decide)] at e2
      refine ⟨(nI (b + 1), M1), e2, rfl, f, ⟨z, w⟩, fun x h hx hh => ?_⟩
      dsimp only
      rw [c x h hx hh]
      by_cases d : x = b
      · subst d; rw [hs]; simp
      · have : decide (x < b + 1) = decide (x < b) := by rw [Bool.eq_iff_iff]; simp only [decide_eq_true_eq]; omega
        rw [this]
    | true =>
      rw [hs, if_pos rfl] at e2
      obtain ⟨M2, p1, p2, w1, k1⟩ := f8_raise w hk hb
      rw [setF_2] at w1 k1
      have f1 : FI 79 100 mc M2 := f.trans (p2.mono (by omega) (by omega))
      obtain ⟨M3, q1, q2, q3, q4⟩ := ciw_50 (bits := nI (bitsN sm 10)) (F9_countInWell_b159 (F9_countInWell_h21 (nI k) (nI (bitsN sm 10)) n) (nI k) (nI (bitsN sm 10))) I f1 hb hk w1 k1 (fun h hh => by
        rw [p2 97 (by omega), c b h hb hh, decide_eq_false (by omega)]; rfl)
      refine ⟨(nI (b + 1), M3), ?_, rfl, f1.trans (q2.mono (by omega) (by omega)), ⟨b, w1.fi q2 (by omega)⟩, fun x h hx hh => ?_⟩
      · show F9_countInWell_h21 (nI k) (nI (bitsN sm 10)) (n + 1) (nI b) M1 = _
        rw [e2, p1, Option.bind_some, q1]
        unfold F9_countInWell_b159
        rw [nI_1 b]
      · dsimp only
        by_cases d : x = b
        · subst d
          rw [q4 h hh, hs, decide_eq_true (by omega)]; rfl
        · rw [q3 (x * 40 + h) (by omega), p2 97 (by omega), c x h hx hh]
          have : decide (x < b + 1) = decide (x < b) := by rw [Bool.eq_iff_iff]; simp only [decide_eq_true_eq]; omega
          rw [this]
  · rintro n ⟨y, M1⟩ ⟨e, f, -, c⟩
    dsimp only at e f c
    subst e
    exact ⟨M1, rfl, f, fun x h hx hh => by rw [c x h hx hh, decide_eq_true hx, Bool.true_and]⟩
