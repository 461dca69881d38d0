/-! the class: day -/
def nxS (s : Int32) : Int32 := (1103515245 : Int32) * s + 12345
def sdI (s : Int32) : Nat → Int32
  | 0 => s
  | n + 1 => nxS (sdI s n)
def lotN (s : Int32) (m : Nat) : Nat := (s.toBitVec.toNat / 2 ^ 16) % m
def dayE (nw : Nat) (s : Int32) : EV := (fun e => lotN (sdI s (3 * e + 1)) 3, fun e => lotN (sdI s (3 * e + 2)) 40, fun e => lotN (sdI s (3 * e + 3)) nw)
theorem lot_eq (s : Int32) {m : Nat} (h0 : 0 < m) (hm : m < 2 ^ 31) : jrem (jushr s 16) (nI m) = nI (lotN s m) := by
  have h1 : (jushr s 16).toBitVec.toNat = s.toBitVec.toNat / 2 ^ 16 := pk_ushr s 16 16 (by decide)
  have h2 : s.toBitVec.toNat / 2 ^ 16 < 2 ^ 16 := by have := s.toBitVec.isLt; omega
  have h3 : jushr s 16 = nI (s.toBitVec.toNat / 2 ^ 16) := by
    apply Int32.toBitVec_inj.mp
    apply BitVec.eq_of_toNat_eq
    rw [h1, pk_tn (by omega)]
  rw [h3, jrI (by omega) h0 hm]
  rfl
theorem lotN_lt (s : Int32) {m : Nat} (h : 0 < m) : lotN s m < m := Nat.mod_lt _ h
def dayN (K : KX) (n : Nat) : Nat := if K.1.1 = 0 then 0 else n
def dayH (K : KX) (s : Int32) (n : Nat) : KH := HK (dayE K.1.1 s) (dayN K n) (fun _ => true)
def aDayOf (K : KX) (s : Int32) (n : Nat) (v : Int32) : Int32 := if v = 0 then nI (cntN (fun p => goneS K.1 (dayH K s n) (K.2.2.1.2.1 p)) K.2.2.1.1) else (match laW K.1 with
  | none => 0
  | some l => nI (cntN (fun p => hrS K.1 (dayH K s n) (K.2.2.1.2.1 p) l) K.2.2.1.1))
def aDay (K : KX) (s v2 v3 : Int32) : Int32 := if 0 ≤ v2 ∧ v2 < 9 then (if 0 ≤ v3 ∧ v3 < 2 then aDayOf K s v2.toNatClampNeg v3 else -2) else -2
theorem c_lots {mc : Mem} {K : KX} (C : CB mc K) (s : Int32) {n : Nat} (hn : n ≤ 8) : ∃ mc', F9_drawLots s (nI n) mc = some mc' ∧ FI 79 100 mc mc' ∧ CE mc' 88 (dayE K.1.1 s) (dayN K n) := by
  have h8 := C.w8
  unfold F9_drawLots
  simp only [lt]
  have f0 : FI 88 92 mc (mset mc 88 3 0) := (FI.refl _ _ _).set _ _ _ (by omega)
  rw [show (mset mc 88 3 0) 6 4 = nI K.1.1 from by rw [f0 6 (by omega)]; exact C.1.1.2.1]
  by_cases z : K.1.1 = 0
  · rw [if_pos (by rw [z]; rfl)]
    refine ⟨_, rfl, f0.mono (by omega) (by omega), by unfold dayN; rw [if_pos z]; omega, ?_, fun i hi => ?_⟩
    · rw [mset_s]; unfold dayN; rw [if_pos z]; rfl
    · unfold dayN at hi; rw [if_pos z] at hi; omega
  · rw [if_neg (nI_ne0 (by omega) (by omega))]
    have hN : dayN K n = n := by unfold dayN; rw [if_neg z]
    rw [hN]
    refine lpF (fun m (x : Int32 × Int32 × Mem) => F9_drawLots_h24 s (nI n) m x.1 x.2.1 x.2.2) (fun e x => x.1 = sdI s (3 * e) ∧ x.2.1 = nI e ∧ FI 88 92 mc x.2.2 ∧ x.2.2 88 3 = nI e ∧ ∀ i, i < e → (x.2.2 89 i = nI ((dayE K.1.1 s).1 i) ∧ x.2.2 90 i = nI ((dayE K.1.1 s).2.1 i) ∧ x.2.2 91 i = nI ((dayE K.1.1 s).2.2 i))) (fun r => ∃ mc', r = some mc' ∧ FI 79 100 mc mc' ∧ CE mc' 88 (dayE K.1.1 s) n) n (by omega) ?_ ?_ (s, 0, mset mc 88 3 0) ⟨rfl, rfl, f0, mset_s mc 88 3 0, fun i hi => by omega⟩
    · rintro m e ⟨x, y, M⟩ he ⟨e1, e2, f, g, c⟩
      dsimp only at e1 e2 f g c
      subst e1 e2
      left
      have l1 : F9_lot (sdI s (3 * e + 1)) 3 = some (nI (lotN (sdI s (3 * e + 1)) 3)) := by
        unfold F9_lot
        rw [if_neg (by decide)]
        unfold nz
        rw [if_neg (by decide), show (3 : Int32) = nI 3 from rfl, lot_eq _ (by decide) (by decide)]
      have l2 : F9_lot (sdI s (3 * e + 2)) 40 = some (nI (lotN (sdI s (3 * e + 2)) 40)) := by
        unfold F9_lot
        rw [if_neg (by decide)]
        unfold nz
        rw [if_neg (by decide), show (40 : Int32) = nI 40 from rfl, lot_eq _ (by decide) (by decide)]
      have l3 : F9_lot (sdI s (3 * e + 3)) (nI K.1.1) = some (nI (lotN (sdI s (3 * e + 3)) K.1.1)) := by
        unfold F9_lot
        rw [if_neg (nI_nle (by omega) (by omega))]
        unfold nz
        rw [if_neg (nI_ne0 (by omega) (by omega)), lot_eq _ (by omega) (by omega)]
      refine ⟨(sdI s (3 * (e + 1)), nI (e + 1), mset (mset (mset (mset M 89 e (nI ((dayE K.1.1 s).1 e))) 90 e (nI ((dayE K.1.1 s).2.1 e))) 91 e (nI ((dayE K.1.1 s).2.2 e))) 88 3 (nI (e + 1))), ?_, rfl, rfl, (((f.set _ _ _ (by omega)).set _ _ _ (by omega)).set _ _ _ (by omega)).set _ _ _ (by omega), (by dsimp only; rw [mset_s]), fun i hi => ?_⟩
      · show F9_drawLots_p24 _ s (nI n) (sdI s (3 * e)) (nI e) M = _
        unfold F9_drawLots_p24 F9_nextSeed
        rw [if_neg (nI_ge he (by omega)), Option.bind_some]
        show (F9_lot (sdI s (3 * e + 1)) 3).bind _ = _
        rw [l1, Option.bind_some, Option.bind_some]
        show (F9_lot (sdI s (3 * e + 2)) 40).bind _ = _
        rw [l2, Option.bind_some, Option.bind_some]
        show (F9_lot (sdI s (3 * e + 3)) (M 6 4)).bind _ = _
        rw [show M 6 4 = nI K.1.1 from by rw [f 6 (by omega)]; exact C.1.1.2.1, l3, Option.bind_some, f2_add_lt (Or.inr rfl) g (by omega), Option.bind_some, nI_1]
        rfl
      · dsimp only
        by_cases ei : i = e
        · subst ei
          exact ⟨by rw [mset_n (by decide), mset_n (by decide), mset_n (by decide), mset_s], by rw [mset_n (by decide), mset_n (by decide), mset_s], by rw [mset_n (by decide), mset_s]⟩
        · obtain ⟨c1, c2, c3⟩ := c i (by omega)
          exact ⟨by rw [mset_n (by decide), mset_n (by decide), mset_n (by decide), mset_o ei]; exact c1, by rw [mset_n (by decide), mset_n (by decide), mset_o ei, mset_n (by decide)]; exact c2, by rw [mset_n (by decide), mset_o ei, mset_n (by decide), mset_n (by decide)]; exact c3⟩
    · rintro m ⟨x, y, M⟩ ⟨e1, e2, f, g, c⟩
      dsimp only at e1 e2 f g c
      subst e1 e2
      refine ⟨M, ?_, f.mono (by omega) (by omega), hn, g, fun i hi => ⟨c i hi, lotN_lt _ (by decide), lotN_lt _ (by decide), ?_⟩⟩
      · show F9_drawLots_p24 _ s (nI n) (sdI s (3 * n)) (nI n) M = _
        unfold F9_drawLots_p24
        rw [if_pos (nI_le (Nat.le_refl _) (by omega))]
      · have := lotN_lt (sdI s (3 * i + 3)) (m := K.1.1) (by omega)
        show lotN (sdI s (3 * i + 3)) K.1.1 < 8
        omega
theorem c_dayLoop {mc : Mem} {K : KX} {Hd : KH} (C : CB mc K) (g : CH mc 84 Hd) (s v2 v : Int32) : ∃ mc', F9_day_h47 (F9_day_b153 s v2 v) s v2 v FU 0 0 0 mc = some (if v = 0 then nI (cntN (fun p => goneS K.1 Hd (K.2.2.1.2.1 p)) K.2.2.1.1) else (match laW K.1 with | none => 0 | some l => nI (cntN (fun p => hrS K.1 Hd (K.2.2.1.2.1 p) l) K.2.2.1.1)), mc') ∧ FI 92 97 mc mc' := by
  have n8 := C.n8
  have h8 := C.w8
  have hq : ∃ hf : Nat → Bool, (∀ (M : Mem) p, p < K.2.2.1.1 → FI 92 97 mc M → CP M 92 K.1 Hd (K.2.2.1.2.1 p) → F4_isHeardAt 92 (M 6 5) M = some (b2i (hf p))) ∧ (match laW K.1 with | none => (0 : Int32) | some l => nI (cntN (fun p => hrS K.1 Hd (K.2.2.1.2.1 p) l) K.2.2.1.1)) = nI (cntN hf K.2.2.1.1) := by
    cases hl : laW K.1 with
    | none =>
      refine ⟨fun _ => false, fun M p hp f P => ?_, ?_⟩
      · rw [show M 6 5 = -1 from by rw [f 6 (by omega)]; exact C.1.2.1.trans (by rw [show laS K.1.2.2 K.1.1 = none from hl]; rfl)]
        exact f4_heardX (by decide)
      · have : cntN (fun _ => false) K.2.2.1.1 = 0 := by
          generalize K.2.2.1.1 = n
          induction n with
          | zero => rfl
          | succ n ih => rw [cnt_s, ih]; rfl
        rw [this]; rfl
    | some l =>
      have := laW_lt hl
      refine ⟨fun p => hrS K.1 Hd (K.2.2.1.2.1 p) l, fun M p hp f P => ?_, rfl⟩
      rw [show M 6 5 = nI l from by rw [f 6 (by omega)]; exact C.1.2.1.trans (by rw [show laS K.1.2.2 K.1.1 = some l from hl]; rfl)]
      exact f4_heard P (by omega)
  obtain ⟨hf, q1, q2⟩ := hq
  rw [q2]
  refine lpF (fun m (x : Int32 × Int32 × Int32 × Mem) => F9_day_h47 (F9_day_b153 s v2 v) s v2 v m x.1 x.2.1 x.2.2.1 x.2.2.2) (fun p x => x.1 = nI (cntN (fun p => goneS K.1 Hd (K.2.2.1.2.1 p)) p) ∧ x.2.1 = nI (cntN hf p) ∧ x.2.2.1 = nI p ∧ FI 92 97 mc x.2.2.2) (fun r => ∃ mc', r = some (if v = 0 then nI (cntN (fun p => goneS K.1 Hd (K.2.2.1.2.1 p)) K.2.2.1.1) else nI (cntN hf K.2.2.1.1), mc') ∧ FI 92 97 mc mc') K.2.2.1.1 (by omega) ?_ ?_ (0, 0, 0, mc) ⟨rfl, rfl, rfl, FI.refl _ _ _⟩
  · rintro m p ⟨x, y, z, M⟩ hp ⟨e1, e2, e3, f⟩
    dsimp only at e1 e2 e3 f
    subst e1 e2 e3
    left
    have C1 : CB M K := C.fc (FC.of f (by omega))
    obtain ⟨⟨a1, a2, a3, a4, -⟩, ko⟩ := C1.2.2.1.2.2 p hp
    obtain ⟨M2, r1, r2, r3⟩ := f4_follow (q := 92) (p := p) (S := K.2.2.1.2.1 p) C1.1.1 C1.1.2 (g.fi f (by omega)) (by omega) (by omega) (by omega) (by omega) a1 a4 ko
    refine ⟨(nI (cntN (fun p => goneS K.1 Hd (K.2.2.1.2.1 p)) (p + 1)), nI (cntN hf (p + 1)), nI (p + 1), M2), ?_, rfl, rfl, rfl, f.trans r2⟩
    show F9_day_p47 _ _ s v2 v (nI (cntN (fun p => goneS K.1 Hd (K.2.2.1.2.1 p)) p)) (nI (cntN hf p)) (nI p) M = _
    have hb : ∀ s1, s1 = b2i (goneS K.1 Hd (K.2.2.1.2.1 p)) → F9_day_b117 (F9_day_h47 (F9_day_b153 s v2 v) s v2 v m) (F9_day_b153 s v2 v) s v2 v (nI (cntN hf p)) (nI p) (nI (cntN (fun p => goneS K.1 Hd (K.2.2.1.2.1 p)) p)) s1 M2 = F9_day_h47 (F9_day_b153 s v2 v) s v2 v m (nI (cntN (fun p => goneS K.1 Hd (K.2.2.1.2.1 p)) (p + 1))) (nI (cntN hf (p + 1))) (nI (p + 1)) M2 := by
      rintro s1 rfl
      unfold F9_day_b117 F9_day_b144
      rw [q1 M2 p hp (f.trans r2) r3, Option.bind_some, nI_1 p, ← b2n_i (goneS K.1 Hd (K.2.2.1.2.1 p)), nI_add, cnt_s, cnt_s]
      cases hf p with
      | false => rw [if_pos (show b2i false = 0 from rfl), show (0 : Int32) = nI 0 from rfl, nI_add]; rfl
      | true => rw [if_neg (show ¬ b2i true = 0 by decide), show (1 : Int32) = nI 1 from rfl, nI_add]; rfl
    unfold F9_day_p47
    rw [C1.2.2.1.2.1, if_neg (nI_ge hp (by omega)), ckI (show p < 8 by omega) (by decide), ckI (show p < 8 by omega) (by decide), nI_clamp (show p < 2 ^ 31 by omega), a2, a3, r1, Option.bind_some, f4_gone r3 ko.l64, Option.bind_some]
    cases hgg : goneS K.1 Hd (K.2.2.1.2.1 p) with
    | false => rw [if_pos (show b2i false = 0 from rfl)]; exact hb 0 (by rw [hgg]; rfl)
    | true => rw [if_neg (show ¬ b2i true = 0 by decide)]; exact hb 1 (by rw [hgg]; rfl)
  · rintro m ⟨x, y, z, M⟩ ⟨e1, e2, e3, f⟩
    dsimp only at e1 e2 e3 f
    subst e1 e2 e3
    refine ⟨M, ?_, f⟩
    show F9_day_p47 _ _ s v2 v (nI (cntN (fun p => goneS K.1 Hd (K.2.2.1.2.1 p)) K.2.2.1.1)) (nI (cntN hf K.2.2.1.1)) (nI K.2.2.1.1) M = _
    unfold F9_day_p47 F9_day_b153
    rw [show M 11 5 = nI K.2.2.1.1 from by rw [f 11 (by omega)]; exact C.2.2.1.2.1, if_pos (nI_le (Nat.le_refl _) (by omega))]
    split <;> rfl
theorem c_day {mc : Mem} {K : KX} (I : CI mc K) (s v2 v3 : Int32) : ∃ mc', F9_day s v2 v3 mc = some (aDay K s v2 v3, mc') ∧ FC mc mc' ∧ CI mc' K := by
  unfold F9_day aDay
  simp only [f9_b]
  by_cases c2 : 0 ≤ v2 ∧ v2 < 9
  · by_cases c3 : 0 ≤ v3 ∧ v3 < 2
    · simp only [if_pos c2, if_pos c3]
      obtain ⟨n, hn, rfl⟩ := i_of (b := 9) (by decide) c2
      rw [nI_clamp (show n < 2 ^ 31 by omega)]
      obtain ⟨M, r1, r2, r3⟩ := c_lots I.1 s (show n ≤ 8 by omega)
      obtain ⟨M2, q1, q2, q3⟩ := f3_fill (u := 84) r3 (by omega) mask_all
      have f2 : FI 79 100 mc M2 := r2.trans (q2.mono (by omega) (by omega))
      obtain ⟨M3, p1, p2⟩ := c_dayLoop (I.fi f2).1 q3 s (nI n) v3
      have f3 : FI 79 100 mc M3 := f2.trans (p2.mono (by omega) (by omega))
      exact ⟨M3, by rw [r1, Option.bind_some, q1, Option.bind_some]; exact p1, FC.of f3 (by omega), I.fi f3⟩
    · simp only [if_pos c2, if_neg c3]
      exact ⟨mc, rfl, FC.refl mc, I⟩
  · simp only [if_neg c2]
    exact ⟨mc, rfl, FC.refl mc, I⟩
