/-! the relation of the two; texts -/
theorem f5_take {mc : Mem} {b : Nat → Nat} {n : Nat} (C : CT mc 4 n b) (hn : n ≤ 63) : ∃ mc', F5_take 11 4 mc = some (en (fS b n), mc') ∧ FS11 mc mc' ∧ CS mc' (nS b n) (ssS b n) (ltS b n) := by
  have hb : ∀ i, i < n → b i < 256 := fun i hi => (C.2 i hi).2
  unfold F5_take
  simp only [lt]
  have f0 : FS11 mc (mset mc 11 5 0) := FS11.set (fun _ _ => rfl) _ _ (by omega)
  rw [show (mset mc 11 5 0) 4 1 = nI n from by rw [mset_n (by decide)]; exact C.1]
  by_cases z : n = 0
  · subst z
    have hz : nS b 0 = 0 := by unfold nS fS; rfl
    have hf : fS b 0 = none := by unfold fS; rfl
    rw [if_pos (show nI 0 = 0 from rfl), hz, hf]
    unfold F5_take_b21
    rw [if_pos rfl]
    exact ⟨_, rfl, f0, by decide, mset_s _ _ _ _, fun p hp => by omega⟩
  · rw [if_neg (nI_ne0 (by omega) (by omega))]
    obtain ⟨M, r1, r2, r3⟩ := takeS C hn (by omega) f0 (mset_s _ _ _ _)
    rw [r1, Option.bind_some]
    dsimp only
    unfold F5_take_b21
    cases hfs : fS b n with
    | none =>
      rw [if_pos (show en none = -1 from rfl)]
      obtain ⟨g1, g2⟩ := r3 hfs
      have hok := nS_ok hb hfs
      refine ⟨M, rfl, r2, hok.1, g1, fun p hp => ⟨?_, (hok.2 p hp).1⟩⟩
      obtain ⟨q1, q2, q3, q4, q5⟩ := g2 p hp
      exact ⟨q1, q2, q3, q4, q5⟩
    | some i =>
      have hi : i < 2 ^ 31 := by
        have hlt : ∀ j, (pS b j).1 = some i → i < j := by
          intro j
          induction j with
          | zero => intro h; cases h
          | succ j ih =>
            intro h
            rw [pS_s] at h
            unfold stp at h
            split at h
            · rename_i f hf
              have := ih (by rw [hf, ← h, hf]); omega
            · split at h
              · cases h
              · split at h
                · cases h
                · cases h; omega
        unfold fS at hfs
        cases hq : (pS b n).1 with
        | some j => rw [hq] at hfs; cases hfs; have := hlt n hq; omega
        | none => rw [hq] at hfs; dsimp only at hfs; split at hfs <;> cases hfs; omega
      have hns : nS b n = 0 := by unfold nS; rw [hfs]
      rw [if_neg (show ¬ en (some i) = -1 from nI_ne1 hi), hns]
      exact ⟨_, rfl, r2.set _ _ (by omega), by decide, mset_s _ _ _ _, fun p hp => by omega⟩
abbrev TX : Type := (Nat × (Nat → Nat)) × (Nat × (Nat → Nat))
def KT (T : TX) (ev : EV × Nat) (dr : Nat × EV) : KX := ((nW T.1.2 T.1.1, stW T.1.2, htW T.1.2), ev, (nS T.2.2 T.2.1, ssS T.2.2 T.2.1, ltS T.2.2 T.2.1), dr)
def CTT (mc : Mem) (T : TX) : Prop := (CT mc 2 T.1.1 T.1.2 ∧ T.1.1 ≤ 23 ∧ mc 2 2 = en (fW T.1.2 T.1.1)) ∧ CT mc 4 T.2.1 T.2.2 ∧ T.2.1 ≤ 63 ∧ mc 4 2 = en (fS T.2.2 T.2.1)
def RTT (mm : Mem) (T : TX) : Prop := (mm 6 0 = nI T.1.1 ∧ ∀ i, i < T.1.1 → mm 5 i = nI (T.1.2 i)) ∧ mm 6 1 = nI T.2.1 ∧ ∀ i, i < T.2.1 → mm 5 (64 + i) = nI (T.2.2 i)
def RI (mm : Mem) (T : TX) (ev : EV × Nat) (dr : Nat × EV) : Prop := RTT mm T ∧ ME mm ev.1 ev.2 (fun _ => true) ∧ (mm 0 13 = 0 ∧ mm 0 14 = -1) ∧ MD mm dr.1 dr.2
/-- the sheet t is alike -/
def RS1 (mc mm : Mem) (t : Nat) : Prop := ∃ (f : Option Nat) (n : Nat), n ≤ 60 ∧ (∀ j, f = some j → j < 3) ∧ mc (26 + 2 * t) 1 = en f ∧ mm 1 t = en f ∧ (f ≠ none → mc (26 + 2 * t) 2 = nI n ∧ mm 2 t = nI n ∧ ∀ i, i < n → mc (27 + 2 * t) i = mm 3 (60 * t + i))
def RS (mc mm : Mem) : Prop := ∀ t, t < 4 → RS1 mc mm t
def IV (mc mm : Mem) (T : TX) (ev : EV × Nat) (dr : Nat × EV) : Prop := CTT mc T ∧ CI mc (KT T ev dr) ∧ RI mm T ev dr ∧ RS mc mm ∧ mc 0 6 = mm 0 4
def Inv (mc mm : Mem) : Prop := ∃ T ev dr, IV mc mm T ev dr
theorem RS.ag {mc mm mc' mm' : Mem} (R : RS mc mm) (h : ∀ k, 26 ≤ k → k < 34 → mc' k = mc k) (g : ∀ k, 1 ≤ k → k < 4 → mm' k = mm k) : RS mc' mm' := fun t ht => by
  have := R t ht
  unfold RS1 at *
  rw [h (26 + 2 * t) (by omega) (by omega), h (27 + 2 * t) (by omega) (by omega), g 1 (by omega) (by omega), g 2 (by omega) (by omega), g 3 (by omega) (by omega)]
  exact this
theorem CTT.ag {mc mc' : Mem} {T : TX} (C : CTT mc T) (h : ∀ k, 2 ≤ k → k < 6 → mc' k = mc k) : CTT mc' T := by
  unfold CTT CT at *
  rw [h 2 (by omega) (by omega), h (2 + 1) (by omega) (by omega), h 4 (by omega) (by omega), h (4 + 1) (by omega) (by omega)]
  exact C
/-- what a question may change in the reference, with all that was read -/
def FF (mm mm' : Mem) : Prop := (∀ k, (1 ≤ k ∧ k < 7) ∨ k = 9 ∨ k = 20 → mm' k = mm k) ∧ ∀ i, i ≠ 7 → i ≠ 9 → i ≠ 15 → i ≠ 29 → mm' 0 i = mm 0 i
theorem FF.refl (mm : Mem) : FF mm mm := ⟨fun _ _ => rfl, fun _ _ _ _ _ => rfl⟩
theorem FF.trans {a b c : Mem} (h : FF a b) (g : FF b c) : FF a c := ⟨fun k hk => (g.1 k hk).trans (h.1 k hk), fun i h1 h2 h3 h4 => (g.2 i h1 h2 h3 h4).trans (h.2 i h1 h2 h3 h4)⟩
theorem FF.of {a b : Mem} (h : FrB a b) : FF a b := ⟨fun k hk => h.1 k (by omega), fun i _ _ h3 h4 => h.2 i h3 h4⟩
theorem RTT.ag {mm mm' : Mem} {T : TX} (R : RTT mm T) (h5 : mm' 5 = mm 5) (h6 : mm' 6 = mm 6) : RTT mm' T := by
  unfold RTT at *
  rw [h5, h6]
  exact R
theorem RI.ff {mm mm' : Mem} {T : TX} {ev : EV × Nat} {dr : Nat × EV} (R : RI mm T ev dr) (f : FF mm mm') : RI mm' T ev dr := by
  obtain ⟨a, b, c, d⟩ := R
  exact ⟨a.ag (f.1 5 (by omega)) (f.1 6 (by omega)), b.congr (f.2 11 (by decide) (by decide) (by decide) (by decide)) (f.2 13 (by decide) (by decide) (by decide) (by decide)) (f.1 9 (by omega)), ⟨(f.2 13 (by decide) (by decide) (by decide) (by decide)).trans c.1, (f.2 14 (by decide) (by decide) (by decide) (by decide)).trans c.2⟩, d.fr (f.2 26 (by decide) (by decide) (by decide) (by decide)) (f.1 20 (by omega))⟩
theorem IV.q {mc mm mc' mm' : Mem} {T : TX} {ev : EV × Nat} {dr : Nat × EV} (I : IV mc mm T ev dr) (f : FC mc mc') (c : CI mc' (KT T ev dr)) (g : FF mm mm') : IV mc' mm' T ev dr := by
  obtain ⟨a, -, r, s, l⟩ := I
  exact ⟨a.ag (fun k h1 h2 => f.1 k (by omega) (by omega)), c, r.ff g, s.ag (fun k h1 h2 => f.1 k (by omega) (by omega)) (fun k h1 h2 => g.1 k (by omega)), by rw [f.2 6 (by decide) (by decide), g.2 4 (by decide) (by decide) (by decide) (by decide)]; exact l⟩
theorem r_find {mm : Mem} {T : TX} {ev : EV × Nat} {dr : Nat × EV} (R : RI mm T ev dr) (hb0 : ∀ i, i < T.1.1 → T.1.2 i < 256) (hb1 : ∀ i, i < T.2.1 → T.2.2 i < 256) (h0 : T.1.1 ≤ 23) (h1 : T.2.1 ≤ 63) : ∃ mm', F10_find mm = some mm' ∧ FF mm mm' ∧ RB mm' (KT T ev dr) ∧ RLv mm' (KT T ev dr).1 (H0 (KT T ev dr)) (KT T ev dr).2.2.1.1 (KT T ev dr).2.2.1.2.1 := by
  obtain ⟨⟨⟨t1, t2⟩, t3, t4⟩, e, ⟨n1, n2⟩, d⟩ := R
  obtain ⟨M1, p1, p2, p3, p4⟩ := r_readsWells t1 t2 hb0 h0
  obtain ⟨M2, q1, q2, q3, q4⟩ := r_readsSays (mm := M1) (by rw [p2 6 (by decide) (by decide)]; exact t3) (fun i hi => by rw [p2 5 (by decide) (by decide)]; exact t4 i hi) hb1 h1
  have f2 : FF mm M2 := ⟨fun k hk => (q2 k (by omega) (by omega)).trans (p2 k (by omega) (by omega)), fun i a b _ _ => (q3 i b).trans (p3 i a)⟩
  have B : RB M2 (KT T ev dr) := ⟨p4.congr (q3 7 (by decide)) (q2 7 (by decide) (by decide)), e.congr (f2.2 11 (by decide) (by decide) (by decide) (by decide)) (f2.2 13 (by decide) (by decide) (by decide) (by decide)) (f2.1 9 (by omega)), ⟨(f2.2 13 (by decide) (by decide) (by decide) (by decide)).trans n1, (f2.2 14 (by decide) (by decide) (by decide) (by decide)).trans n2⟩, q4, d.fr (f2.2 26 (by decide) (by decide) (by decide) (by decide)) (f2.1 20 (by omega))⟩
  obtain ⟨M3, r1, r2, -, r4⟩ := B.rv.lives
  refine ⟨M3, ?_, f2.trans (FF.of (FrB.of r2)), B.fr (FrB.of r2), r4⟩
  unfold F10_find
  rw [p1, Option.bind_some]
  dsimp only
  rw [q1, Option.bind_some]
  dsimp only
  rw [r1]
  rfl
theorem IV.find {mc mm : Mem} {T : TX} {ev : EV × Nat} {dr : Nat × EV} (I : IV mc mm T ev dr) : ∃ mm', F10_find mm = some mm' ∧ FF mm mm' ∧ RB mm' (KT T ev dr) ∧ RLv mm' (KT T ev dr).1 (H0 (KT T ev dr)) (KT T ev dr).2.2.1.1 (KT T ev dr).2.2.1.2.1 := by
  obtain ⟨⟨⟨a1, a2, -⟩, a3, a4, -⟩, -, r, -⟩ := I
  exact r_find r (fun i hi => (a1.2 i hi).2) (fun i hi => (a3.2 i hi).2) a2 a4
