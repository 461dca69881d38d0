/-! a coin more: what it changes -/
theorem goesS_cong {W : KW} {H H' : KH} {wood : Bool} {h k : Nat} {X : ST} (h1 : H.1 = H'.1) (h2 : H.2.1 h k = H'.2.1 h k) : goesS W H wood h k X = goesS W H' wood h k X := by
  unfold goesS
  rw [h1, h2]
theorem stepS_cong {W : KW} {H H' : KH} {S : KS} {h : Nat} {X : ST} (h1 : H.1 = H'.1) (h3 : H.2.2 = H'.2.2) (h2 : ∀ k, X.1 = some k → H.2.1 h k = H'.2.1 h k) : stepS W H S h X = stepS W H' S h X := by
  by_cases e : S.1 = h
  · rw [stepS_read e, stepS_read e, h1]
  · cases hX : X.1 with
    | none => rw [stepS_none e hX, stepS_none e hX]
    | some k => rw [stepS_some e hX, stepS_some e hX, h1, h3, goesS_cong h1 (h2 k hX)]
theorem coin_has {H : KH} {h w : Nat} (hc : H.2.1 h w = true) : coinH H h w = H := by
  unfold coinH
  have : (fun x k => H.2.1 x k || (x == h && k == w)) = H.2.1 := by
    funext x k
    by_cases e : x = h
    · by_cases d : k = w
      · subst e; subst d; rw [hc]; rfl
      · rw [beqf d]; simp
    · rw [beqf e]; simp
  rw [this]
theorem coin_same {W : KW} {H : KH} {S : KS} {h w : Nat} (hn : ¬ (lifS W H S h).1 = some w) : ∀ j, lifS W (coinH H h w) S j = lifS W H S j := by
  intro j
  induction j with
  | zero => rfl
  | succ j ih =>
    show (stepS W (coinH H h w) S j (lifS W (coinH H h w) S j)).1 = (stepS W H S j (lifS W H S j)).1
    rw [ih, stepS_cong (H := coinH H h w) (H' := H) rfl rfl (fun k hk => ?_)]
    show (H.2.1 j k || (j == h && k == w)) = H.2.1 j k
    by_cases e : j = h
    · subst e
      rw [beqf (show ¬ k = w from fun z => hn (by rw [hk, z]))]; simp
    · rw [beqf e]; simp
theorem coin_hrd {W : KW} {H : KH} {S : KS} {h w : Nat} (hn : ¬ (lifS W H S h).1 = some w) (j : Nat) : hrdS W (coinH H h w) S j = hrdS W H S j := by
  show (stepS W (coinH H h w) S j (lifS W (coinH H h w) S j)).2 = (stepS W H S j (lifS W H S j)).2
  rw [coin_same hn j, stepS_cong (H := coinH H h w) (H' := H) rfl rfl (fun k hk => ?_)]
  show (H.2.1 j k || (j == h && k == w)) = H.2.1 j k
  by_cases e : j = h
  · subst e
    rw [beqf (show ¬ k = w from fun z => hn (by rw [hk, z]))]; simp
  · rw [beqf e]; simp
theorem coin_hr {W : KW} {H : KH} {S : KS} {h w : Nat} (hn : ¬ (lifS W H S h).1 = some w) (t : Nat) : hrS W (coinH H h w) S t = hrS W H S t := by
  unfold hrS
  refine evB_congr (fun j _ => ?_)
  unfold hAt
  rw [coin_hrd hn, coin_same hn]
theorem hrS_ge {W : KW} {H : KH} {S : KS} (l : KO S) {t : Nat} (ht : W.1 ≤ t) : hrS W H S t = false := by
  cases h : hrS W H S t with
  | false => rfl
  | true =>
    obtain ⟨j, h1, h2⟩ := (evB_iff _ _).mp (show evB (hAt W H S t) 40 = true from h)
    unfold hAt at h2
    rw [Bool.and_eq_true, beq_iff_eq] at h2
    have := lif_lt l h2.2
    omega
theorem bt_clr {x : Int32} {f : Nat → Bool} (h : BT x f) {k : Nat} (hk : k < 8) : BT (x &&& (((1 : Int32) <<< (nI k &&& (31 : Int32))) ^^^ (-1 : Int32))) (fun j => f j && !(j == k)) := by
  obtain ⟨N, h1, rfl, h2⟩ := h
  rw [tb_less N h1 k hk]
  refine ⟨N &&& (255 - 2 ^ k), Nat.lt_of_le_of_lt Nat.and_le_left h1, rfl, fun j hj => ?_⟩
  rw [Nat.testBit_and, h2 j hj, tb_lesst k hk j hj]
/-- how many are heard at t with a coin of w more in hour h -/
def talN (K : KX) (h w t n : Nat) : Nat := cntN (fun p => hrS K.1 (coinH (H0 K) h w) (K.2.2.1.2.1 p) t) n
theorem tally_in {K : KX} {q h w p : Nat} {M : Mem} {H : KH} {v1 v2 a3 : Int32} (kx : Int32 → Int32 → Mem → Option Mem) (C : CB M K) (P : CP M q K.1 H (K.2.2.1.2.1 p)) (hq : q ≠ 98) (hp : p < K.2.2.1.1) (hH : ∀ t, hrS K.1 H (K.2.2.1.2.1 p) t = hrS K.1 (coinH (H0 K) h w) (K.2.2.1.2.1 p) t) (hT : ∀ t, t < 8 → M 98 t = nI (talN K h w t p)) : ∃ M', F9_countHeard_h144 kx v1 v2 FU a3 (nI p) q 0 M = kx a3 (nI p) M' ∧ FI 98 99 M M' ∧ ∀ t, t < 8 → M' 98 t = nI (talN K h w t (p + 1)) := by
  have h8 := C.w8
  have ko := (C.2.2.1.2.2 p hp).2
  refine lpF (fun n (s : Int32 × Mem) => F9_countHeard_h144 kx v1 v2 n a3 (nI p) q s.1 s.2) (fun i s => s.1 = nI i ∧ FI 98 99 M s.2 ∧ ∀ t, t < 8 → s.2 98 t = nI (talN K h w t (if t < i then p + 1 else p))) (fun r => ∃ M', r = kx a3 (nI p) M' ∧ FI 98 99 M M' ∧ ∀ t, t < 8 → M' 98 t = nI (talN K h w t (p + 1))) K.1.1 (by omega) ?_ ?_ (0, M) ⟨rfl, FI.refl _ _ _, fun t ht => by dsimp only; rw [if_neg (by omega)]; exact hT t ht⟩
  · rintro n t ⟨x, M1⟩ ht ⟨e1, f, c⟩
    dsimp only at e1 f c
    subst e1
    left
    have ct := c t (by omega)
    rw [if_neg (by omega)] at ct
    refine ⟨(nI (t + 1), mset M1 98 t (nI (talN K h w t (p + 1)))), ?_, rfl, f.set _ _ _ (by omega), fun j hj => ?_⟩
    · show F9_countHeard_p144 _ _ v1 v2 a3 (nI p) q (nI t) M1 = _
      unfold F9_countHeard_p144
      have hb := bt_test P.2 (show t < 8 by omega)
      rw [show M1 6 4 = nI K.1.1 from by rw [f 6 (by omega)]; exact C.1.1.2.1, if_neg (nI_ge ht (by omega)), ckI (show t < 9 by omega) (by decide), ckI (show t < 9 by omega) (by decide), nI_clamp (show t < 2 ^ 31 by omega), ct, nI_1 t, f q (by omega), hb, show evB (hAt K.1 H (K.2.2.1.2.1 p) t) 40 = hrS K.1 (coinH (H0 K) h w) (K.2.2.1.2.1 p) t from hH t, ← b2n_i, nI_add]
      rfl
    · dsimp only
      by_cases e : j = t
      · subst e
        rw [mset_s, if_pos (by omega)]
      · rw [mset_o e, c j hj]
        by_cases d : j < t
        · rw [if_pos d, if_pos (by omega)]
        · rw [if_neg d, if_neg (by omega)]
  · rintro n ⟨x, M1⟩ ⟨e1, f, c⟩
    dsimp only at e1 f c
    subst e1
    refine ⟨M1, ?_, f, fun t ht => ?_⟩
    · show F9_countHeard_p144 _ _ v1 v2 a3 (nI p) q (nI K.1.1) M1 = _
      unfold F9_countHeard_p144
      rw [show M1 6 4 = nI K.1.1 from by rw [f 6 (by omega)]; exact C.1.1.2.1, if_pos (nI_le (Nat.le_refl _) (by omega))]
    · rw [c t ht]
      by_cases d : t < K.1.1
      · rw [if_pos d]
      · rw [if_neg d]
        unfold talN
        rw [cnt_s, hrS_ge ko (by omega)]
        rfl
/-- only the room for trials, the tally and the coins of the hours have changed -/
def FT (mc mc' : Mem) : Prop := ∀ k, k ≠ 35 → k < 92 ∨ 99 ≤ k → mc' k = mc k
theorem FT.trans {a b c : Mem} (h : FT a b) (g : FT b c) : FT a c := fun k h1 h2 => (g k h1 h2).trans (h k h1 h2)
theorem FT.of {a b : Mem} {c d : Nat} (f : FI c d a b) (h : 92 ≤ c ∧ d ≤ 99) : FT a b := fun k _ h2 => f k (by omega)
theorem FT.fc {a b : Mem} (f : FT a b) : FC a b := ⟨fun k _ h2 => f k (by omega) (by omega), fun i _ _ => by rw [f 0 (by omega) (by omega)]⟩
theorem CP.ft {M M' : Mem} {q : Nat} {W : KW} {H : KH} {S : KS} (C : CP M q W H S) (f : FT M M') (s : 36 ≤ q ∧ q + 4 < 92) : CP M' q W H S := by
  unfold CP FQ
  rw [f q (by omega) (by omega), f (q + 1) (by omega) (by omega), f (q + 2) (by omega) (by omega), f (q + 3) (by omega) (by omega), f (q + 4) (by omega) (by omega)]
  exact C
theorem c_tally {mc : Mem} {K : KX} (I : CF mc K) {h w : Nat} (hh : h < 40) (hw : w < K.1.1) : ∃ mc', F9_countHeard (nI h) (nI w) mc = some mc' ∧ FT mc mc' ∧ CH mc' 34 (H0 K) ∧ ∀ t, t < 8 → mc' 98 t = nI (talN K h w t K.2.2.1.1) := by
  have h8 := I.1.w8
  have n8 := I.1.n8
  unfold F9_countHeard
  obtain ⟨M0, s1, s2, s3⟩ := f7_fill (mc := mc) (a := 98) 0 (show ln 98 = 9 from rfl) (by decide)
  have g0 : FI 98 99 mc M0 := fun i hi => s2 i (by omega)
  have I0 : CF M0 K := I.fi (g0.mono (by omega) (by omega))
  rw [s1, Option.bind_some, ckI hh (by decide), nI_clamp (show h < 2 ^ 31 by omega), bt_test (I0.2.1.1 h hh).1 (show w < 8 by omega)]
  -- the loop over the sayings
  have loop : ∀ (M : Mem) (more : Bool), FT mc M → CH M 34 (coinH (H0 K) h w) → (more = false → (H0 K).2.1 h w = true) → (∀ t, t < 8 → M 98 t = 0) → ∃ M', F9_countHeard_h52 (F9_countHeard_b188 (nI h) (nI w)) (nI h) (nI w) FU (b2i more) 0 M = F9_countHeard_b188 (nI h) (nI w) (b2i more) M' ∧ FT mc M' ∧ M' 35 = M 35 ∧ ∀ t, t < 8 → M' 98 t = nI (talN K h w t K.2.2.1.1) := by
    intro M more fM g hmore h0
    refine lpF (fun n (s : Int32 × Mem) => F9_countHeard_h52 (F9_countHeard_b188 (nI h) (nI w)) (nI h) (nI w) n (b2i more) s.1 s.2) (fun p s => s.1 = nI p ∧ FI 92 99 M s.2 ∧ ∀ t, t < 8 → s.2 98 t = nI (talN K h w t p)) (fun r => ∃ M', r = F9_countHeard_b188 (nI h) (nI w) (b2i more) M' ∧ FT mc M' ∧ M' 35 = M 35 ∧ ∀ t, t < 8 → M' 98 t = nI (talN K h w t K.2.2.1.1)) K.2.2.1.1 (by omega) ?_ ?_ (0, M) ⟨rfl, FI.refl _ _ _, fun t ht => h0 t ht⟩
    · rintro n p ⟨x, M1⟩ hp ⟨e1, f, c⟩
      dsimp only at e1 f c
      subst e1
      left
      have f1 : FT mc M1 := fM.trans (FT.of f (by omega))
      have C1 : CB M1 K := I.1.fc f1.fc
      obtain ⟨⟨a1, a2, a3, a4, -⟩, ko⟩ := C1.2.2.1.2.2 p hp
      have P1 : CP M1 (39 + 5 * p) K.1 (H0 K) (K.2.2.1.2.1 p) := (I.2.1.2 p hp).ft f1 (by omega)
      -- what is left to do with the path at q
      have fin : ∀ (q : Nat) (M2 : Mem) (H : KH), FI 92 97 M1 M2 → CP M2 q K.1 H (K.2.2.1.2.1 p) → q ≠ 98 → (∀ t, hrS K.1 H (K.2.2.1.2.1 p) t = hrS K.1 (coinH (H0 K) h w) (K.2.2.1.2.1 p) t) → ∃ M3, F9_countHeard_b141 (F9_countHeard_h52 (F9_countHeard_b188 (nI h) (nI w)) (nI h) (nI w) n) (F9_countHeard_b188 (nI h) (nI w)) (nI h) (nI w) (b2i more) (nI p) q M2 = F9_countHeard_h52 (F9_countHeard_b188 (nI h) (nI w)) (nI h) (nI w) n (b2i more) (nI (p + 1)) M3 ∧ FI 92 99 M M3 ∧ ∀ t, t < 8 → M3 98 t = nI (talN K h w t (p + 1)) := by
        intro q M2 H f2 P hq hH
        have C2 : CB M2 K := C1.fc (FC.of f2 (by omega))
        obtain ⟨M3, q1, q2, q3⟩ := tally_in (v1 := nI h) (v2 := nI w) (a3 := b2i more) (F9_countHeard_b182 (F9_countHeard_h52 (F9_countHeard_b188 (nI h) (nI w)) (nI h) (nI w) n) (F9_countHeard_b188 (nI h) (nI w)) (nI h) (nI w)) C2 P hq hp hH (fun t ht => by rw [f2 98 (by omega)]; exact c t ht)
        refine ⟨M3, ?_, (f.trans (f2.mono (by omega) (by omega))).trans (q2.mono (by omega) (by omega)), q3⟩
        unfold F9_countHeard_b141
        rw [q1]
        unfold F9_countHeard_b182
        rw [nI_1 p]
      have trial : more = true → ∃ M2, F4_follow 92 6 34 11 (nI p) (M1 13 p) (M1 14 p) M1 = some M2 ∧ FI 92 97 M1 M2 ∧ CP M2 92 K.1 (coinH (H0 K) h w) (K.2.2.1.2.1 p) := by
        intro _
        rw [a2, a3]
        exact f4_follow (q := 92) (p := p) (S := K.2.2.1.2.1 p) C1.1.1 C1.1.2 (g.fi f (by omega)) (by omega) (by omega) (by omega) (by omega) a1 a4 ko
      have goal : ∃ M3, F9_countHeard_h52 (F9_countHeard_b188 (nI h) (nI w)) (nI h) (nI w) (n + 1) (b2i more) (nI p) M1 = F9_countHeard_h52 (F9_countHeard_b188 (nI h) (nI w)) (nI h) (nI w) n (b2i more) (nI (p + 1)) M3 ∧ FI 92 99 M M3 ∧ ∀ t, t < 8 → M3 98 t = nI (talN K h w t (p + 1)) := by
        show ∃ M3, F9_countHeard_p52 _ _ (nI h) (nI w) (b2i more) (nI p) M1 = _ ∧ _
        unfold F9_countHeard_p52
        rw [C1.2.2.1.2.1, if_neg (nI_ge hp (by omega)), ckI (show p < 8 by omega) (by decide), ckI (show p < 8 by omega) (by decide), ckI (show p < 8 by omega) (by decide), nI_clamp (show p < 2 ^ 31 by omega)]
        cases more with
        | false =>
          rw [if_pos (show b2i false = 0 from rfl)]
          exact fin (39 + 5 * p) M1 (H0 K) (FI.refl _ _ _) P1 (by omega) (fun t => by rw [coin_has (hmore rfl)])
        | true =>
          rw [if_neg (show ¬ b2i true = 0 by decide)]
          by_cases z : h = 0
          · subst z
            rw [if_pos (show nI 0 ≤ 0 by decide)]
            exact fin (39 + 5 * p) M1 (H0 K) (FI.refl _ _ _) P1 (by omega) (fun t => (coin_hr (show ¬ (lifS K.1 (H0 K) (K.2.2.1.2.1 p) 0).1 = some w from fun y => by cases y) t).symm)
          · rw [if_neg (nI_nle (by omega) (by omega)), show nI h - (1 : Int32) = nI (h - 1) from nI_sub (b := 1) (by omega), ckI (show h - 1 < 40 by omega) (by decide), nI_clamp (show h - 1 < 2 ^ 31 by omega)]
            have ew : M1 (39 + 5 * p + 1) (h - 1) = en (lifS K.1 (H0 K) (K.2.2.1.2.1 p) h).1 := by
              have := (P1.1 (h - 1) (by omega)).1
              rw [show h - 1 + 1 = h by omega] at this
              exact this
            rw [ew]
            have hl := en_eqs (fun j hj => lif_lt ko hj) h8 (show w < 8 by omega) (o := (lifS K.1 (H0 K) (K.2.2.1.2.1 p) h).1)
            simp only [hl]
            by_cases y : (lifS K.1 (H0 K) (K.2.2.1.2.1 p) h).1 = some w
            · rw [if_pos y]
              obtain ⟨M2, r1, r2, r3⟩ := trial rfl
              rw [r1, Option.bind_some]
              exact fin 92 M2 (coinH (H0 K) h w) r2 r3 (by omega) (fun t => rfl)
            · rw [if_neg y]
              exact fin (39 + 5 * p) M1 (H0 K) (FI.refl _ _ _) P1 (by omega) (fun t => (coin_hr y t).symm)
      obtain ⟨M3, q1, q2, q3⟩ := goal
      exact ⟨(nI (p + 1), M3), q1, rfl, q2, q3⟩
    · rintro n ⟨x, M1⟩ ⟨e1, f, c⟩
      dsimp only at e1 f c
      subst e1
      have f1 : FT mc M1 := fM.trans (FT.of f (by omega))
      refine ⟨M1, ?_, f1, f 35 (by omega), c⟩
      show F9_countHeard_p52 _ _ (nI h) (nI w) (b2i more) (nI K.2.2.1.1) M1 = _
      unfold F9_countHeard_p52
      rw [(I.1.fc f1.fc).2.2.1.2.1, if_pos (nI_le (Nat.le_refl _) (by omega))]
  cases hc : (H0 K).2.1 h w with
  | true =>
    rw [if_neg (show ¬ b2i true = 0 by decide)]
    unfold F9_countHeard_b29 F9_countHeard_b49
    rw [if_pos (show (0 : Int32) = 0 from rfl)]
    obtain ⟨M', q1, q2, q3, q4⟩ := loop M0 false (FT.of g0 (by omega)) (by rw [coin_has hc]; exact I0.2.1.1) (fun _ => hc) (fun t ht => s3 t (by omega))
    refine ⟨M', ?_, q2, ?_, q4⟩
    · show F9_countHeard_h52 (F9_countHeard_b188 (nI h) (nI w)) (nI h) (nI w) FU (b2i false) 0 M0 = _
      rw [q1]; rfl
    · have := I0.2.1.1
      unfold CH at this ⊢
      rw [show M' (34 + 1) = M0 (34 + 1) from q3, q2 (34 + 2) (by omega) (by omega), q2 (34 + 3) (by omega) (by omega), ← g0 (34 + 2) (by omega), ← g0 (34 + 3) (by omega)]
      exact this
  | false =>
    rw [if_pos (show b2i false = 0 from rfl)]
    unfold F9_countHeard_b29 F9_countHeard_b49
    rw [if_neg (show ¬ (1 : Int32) = 0 by decide), ckI hh (by decide), ckI hh (by decide), nI_clamp (show h < 2 ^ 31 by omega)]
    have fM : FT mc (mset M0 35 h (M0 35 h ||| ((1 : Int32) <<< (nI w &&& (31 : Int32))))) := fun k h1 h2 => by rw [mset_n h1]; exact g0 k (by omega)
    have gM : CH (mset M0 35 h (M0 35 h ||| ((1 : Int32) <<< (nI w &&& (31 : Int32))))) 34 (coinH (H0 K) h w) := by
      intro x hx
      obtain ⟨c1, c2, c3⟩ := I0.2.1.1 x hx
      refine ⟨?_, by rw [mset_n (by decide)]; exact c2, by rw [mset_n (by decide)]; exact c3⟩
      by_cases e : x = h
      · subst e
        rw [show (34 + 1 : Nat) = 35 from rfl, mset_s]
        refine bt_cg (bt_or c1 (show w < 8 by omega)) (fun k _ => ?_)
        show _ = ((H0 K).2.1 x k || (x == x && k == w))
        simp
      · rw [show (34 + 1 : Nat) = 35 from rfl, mset_o e]
        refine bt_cg c1 (fun k _ => ?_)
        show _ = ((H0 K).2.1 x k || (x == h && k == w))
        rw [beqf e]; simp
    obtain ⟨M', q1, q2, q3, q4⟩ := loop _ true fM gM (fun z => by cases z) (fun t ht => by rw [mset_n (by decide)]; exact s3 t (by omega))
    refine ⟨mset M' 35 h (M' 35 h &&& (((1 : Int32) <<< (nI w &&& (31 : Int32))) ^^^ (-1 : Int32))), ?_, fun k h1 h2 => by rw [mset_n h1]; exact q2 k h1 h2, ?_, fun t ht => by rw [mset_n (by decide)]; exact q4 t ht⟩
    · show F9_countHeard_h52 (F9_countHeard_b188 (nI h) (nI w)) (nI h) (nI w) FU (b2i true) 0 _ = _
      rw [q1]
      unfold F9_countHeard_b188
      rw [if_neg (show ¬ b2i true = 0 by decide), ckI hh (by decide), ckI hh (by decide), nI_clamp (show h < 2 ^ 31 by omega)]
    · intro x hx
      obtain ⟨c1, c2, c3⟩ := gM x hx
      obtain ⟨d1, d2, d3⟩ := I0.2.1.1 x hx
      refine ⟨?_, by rw [mset_n (by decide), q2 (34 + 2) (by omega) (by omega), ← g0 (34 + 2) (by omega)]; exact d2, by rw [mset_n (by decide), q2 (34 + 3) (by omega) (by omega), ← g0 (34 + 3) (by omega)]; exact d3⟩
      rw [show (34 + 1 : Nat) = 35 from rfl] at c1 d1 ⊢
      by_cases e : x = h
      · subst e
        rw [mset_s, q3]
        refine bt_cg (bt_clr c1 (show w < 8 by omega)) (fun k _ => ?_)
        show (((H0 K).2.1 x k || (x == x && k == w)) && !(k == w)) = (H0 K).2.1 x k
        by_cases d : k = w
        · subst d; rw [hc]; simp
        · rw [beqf d]; simp
      · rw [mset_o e, q3, mset_o e]
        exact d1
