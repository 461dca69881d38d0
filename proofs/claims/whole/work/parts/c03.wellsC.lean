/-! the class takes its wells -/
/-- only what is taken of wells has changed -/
def FW6 (mc M : Mem) : Prop := ∀ k, k ≠ 6 → k ≠ 7 → k ≠ 8 → M k = mc k
theorem FW6.set {mc M : Mem} (f : FW6 mc M) {k : Nat} (i : Nat) (v : Int32) (h : k = 6 ∨ k = 7 ∨ k = 8) : FW6 mc (mset M k i v) := fun j h1 h2 h3 => by rw [mset_n (by omega)]; exact f j h1 h2 h3
theorem takeW {mc M0 : Mem} {b : Nat → Nat} {n : Nat} (C : CT mc 2 n b) (hn : n ≤ 23) (h0 : 0 < n) (f0 : FW6 mc M0) (g0 : M0 6 4 = nI 0) : ∃ mc', F8_takeAll 6 2 M0 = some (en (fW b n), mc') ∧ FW6 mc mc' ∧ (fW b n = none → mc' 6 4 = nI (nW b n) ∧ ∀ k, k < nW b n → mc' 7 k = nI (stW b k) ∧ mc' 8 k = nI (htW b k)) := by
  have hb : ∀ i, i < n → b i < 256 := fun i hi => (C.2 i hi).2
  unfold F8_takeAll
  refine lpF (fun m (s : Int32 × Int32 × Mem) => F8_takeAll_h4 6 2 m s.1 s.2.1 s.2.2) (fun w s => s.1 = nI (3 * w) ∧ s.2.1 = nI w ∧ FW6 mc s.2.2 ∧ s.2.2 6 4 = nI w ∧ 3 * w ≤ n ∧ fsB (badW b) (3 * w) = none ∧ ∀ k, k < w → s.2.2 7 k = nI (stW b k) ∧ s.2.2 8 k = nI (htW b k)) (fun r => ∃ mc', r = some (en (fW b n), mc') ∧ FW6 mc mc' ∧ (fW b n = none → mc' 6 4 = nI (nW b n) ∧ ∀ k, k < nW b n → mc' 7 k = nI (stW b k) ∧ mc' 8 k = nI (htW b k))) 8 (by decide) ?_ ?_ (0, 0, M0) ⟨rfl, rfl, f0, g0, by omega, rfl, fun k hk => by omega⟩
  · rintro m w ⟨x, y, M⟩ hw ⟨e1, e2, f, g, hle, hf, d⟩
    dsimp only at e1 e2 f g d
    subst e1 e2
    have CM : ∀ X : Mem, FW6 mc X → CT X 2 n b := fun X fX => C.ag (by rw [fX 2 (by decide) (by decide) (by decide)]) (fX (2 + 1) (by decide) (by decide) (by decide))
    have s1 : ∀ X : Mem, FW6 mc X → F7_sign 2 (nI (3 * w)) 5 X = some (sgW b n 0 (3 * w)) := fun X fX => sg_W (k := 0) (CM X fX) hn (by omega) (by decide)
    have s2 : ∀ X : Mem, FW6 mc X → F7_sign 2 (nI (3 * w + 1)) 6 X = some (sgW b n 1 (3 * w + 1)) := fun X fX => sg_W (k := 1) (CM X fX) hn (by omega) (by decide)
    have s3 : ∀ X : Mem, FW6 mc X → F7_sign 2 (nI (3 * w + 2)) 0 X = some (sgW b n 2 (3 * w + 2)) := fun X fX => sg_W (k := 2) (CM X fX) hn (by omega) (by decide)
    have t1 := sgW_m (b := b) (n := n) (i := 3 * w) hb (show 0 < 3 by decide)
    have t2 := sgW_m (b := b) (n := n) (i := 3 * w + 1) hb (show 1 < 3 by decide)
    have t3 := sgW_m (b := b) (n := n) (i := 3 * w + 2) hb (show 2 < 3 by decide)
    have b0 : badW b (3 * w) = !(okW 0 (b (3 * w))) := by unfold badW; rw [show 3 * w % 3 = 0 by omega]
    have b1 : badW b (3 * w + 1) = !(okW 1 (b (3 * w + 1))) := by unfold badW; rw [show (3 * w + 1) % 3 = 1 by omega]
    have b2 : badW b (3 * w + 2) = !(okW 2 (b (3 * w + 2))) := by unfold badW; rw [show (3 * w + 2) % 3 = 2 by omega]
    have f1 : FW6 mc (mset M 7 w (sgW b n 0 (3 * w))) := f.set _ _ (by omega)
    have f2 : FW6 mc (mset (mset M 7 w (sgW b n 0 (3 * w))) 8 w (sgW b n 1 (3 * w + 1))) := f1.set _ _ (by omega)
    have f3 : FW6 mc (mset (mset (mset M 7 w (sgW b n 0 (3 * w))) 8 w (sgW b n 1 (3 * w + 1))) 6 4 (nI (w + 1))) := f2.set _ _ (by omega)
    have head : F8_takeAll_h4 6 2 (m + 1) (nI (3 * w)) (nI w) M = if ¬ (3 * w < n ∧ okW 0 (b (3 * w)) = true) then some (nI (3 * w), mset M 7 w (sgW b n 0 (3 * w))) else if ¬ (3 * w + 1 < n ∧ okW 1 (b (3 * w + 1)) = true) then some (nI (3 * w + 1), mset (mset M 7 w (sgW b n 0 (3 * w))) 8 w (sgW b n 1 (3 * w + 1))) else if 3 * w + 2 = n then some (-1, mset (mset (mset M 7 w (sgW b n 0 (3 * w))) 8 w (sgW b n 1 (3 * w + 1))) 6 4 (nI (w + 1))) else if ¬ (3 * w + 2 < n ∧ okW 2 (b (3 * w + 2)) = true) then some (nI (3 * w + 2), mset (mset (mset M 7 w (sgW b n 0 (3 * w))) 8 w (sgW b n 1 (3 * w + 1))) 6 4 (nI (w + 1))) else F8_takeAll_h4 6 2 m (nI (3 * (w + 1))) (nI (w + 1)) (mset (mset (mset M 7 w (sgW b n 0 (3 * w))) 8 w (sgW b n 1 (3 * w + 1))) 6 4 (nI (w + 1))) := by
      show F8_takeAll_p4 _ 6 2 (nI (3 * w)) (nI w) M = _
      unfold F8_takeAll_p4
      simp only [lt]
      rw [if_neg (show ¬ (8 : Int32) ≤ nI w from nI_ge (b := 8) hw (by decide)), s1 M f, Option.bind_some]
      simp only [ckI hw (show 8 < 2 ^ 31 by decide), nI_clamp (show w < 2 ^ 31 by omega), show (6 + 1 : Nat) = 7 from rfl, show (6 + 2 : Nat) = 8 from rfl, nI_1, za2]
      rw [s2 _ f1, Option.bind_some, mset_s, mset_s]
      rw [s3 _ f3, Option.bind_some, show (mset (mset (mset M 7 w (sgW b n 0 (3 * w))) 8 w (sgW b n 1 (3 * w + 1))) 6 4 (nI (w + 1))) 2 1 = nI n from (CM _ f3).1]
      simp only [t1, t2, t3, eqI (show 3 * w + 2 < 2 ^ 31 by omega) (show n < 2 ^ 31 by omega)]
      rfl
    by_cases c1 : 3 * w < n ∧ okW 0 (b (3 * w)) = true
    · have hf1 := fsB_cons hf (by rw [b0, c1.2]; rfl)
      rw [if_neg (fun z => z c1)] at head
      by_cases c2 : 3 * w + 1 < n ∧ okW 1 (b (3 * w + 1)) = true
      · have hf2 := fsB_cons hf1 (by rw [b1, c2.2]; rfl)
        rw [if_neg (fun z => z c2)] at head
        have e7 : sgW b n 0 (3 * w) = nI (stW b w) := by unfold sgW stW; rw [if_pos c1]
        have e8 : sgW b n 1 (3 * w + 1) = nI (htW b w) := by unfold sgW htW; rw [if_pos c2]
        have dd : ∀ k, k < w + 1 → (mset (mset (mset M 7 w (sgW b n 0 (3 * w))) 8 w (sgW b n 1 (3 * w + 1))) 6 4 (nI (w + 1))) 7 k = nI (stW b k) ∧ (mset (mset (mset M 7 w (sgW b n 0 (3 * w))) 8 w (sgW b n 1 (3 * w + 1))) 6 4 (nI (w + 1))) 8 k = nI (htW b k) := by
          intro k hk
          by_cases e : k = w
          · subst e
            exact ⟨by rw [mset_n (by decide), mset_n (by decide), mset_s, e7], by rw [mset_n (by decide), mset_s, e8]⟩
          · obtain ⟨d1, d2⟩ := d k (by omega)
            exact ⟨by rw [mset_n (by decide), mset_n (by decide), mset_o e]; exact d1, by rw [mset_n (by decide), mset_o e, mset_n (by decide)]; exact d2⟩
        by_cases c3 : 3 * w + 2 = n
        · right
          rw [if_pos c3] at head
          have hfw := fW_ok (b := b) (n := n) (by rw [← c3]; exact hf2) (Or.inr (by omega))
          have hnw : nW b n = w + 1 := by unfold nW; rw [hfw]; show (n + 1) / 3 = w + 1; omega
          rw [hnw]
          exact ⟨_, by rw [hfw]; exact head, f3, fun _ => ⟨mset_s _ _ _ _, dd⟩⟩
        · rw [if_neg c3] at head
          by_cases c4 : 3 * w + 2 < n ∧ okW 2 (b (3 * w + 2)) = true
          · left
            rw [if_neg (fun z => z c4)] at head
            have hf3 := fsB_cons hf2 (by rw [b2, c4.2]; rfl)
            exact ⟨(nI (3 * (w + 1)), nI (w + 1), mset (mset (mset M 7 w (sgW b n 0 (3 * w))) 8 w (sgW b n 1 (3 * w + 1))) 6 4 (nI (w + 1))), head, rfl, rfl, f3, (by dsimp only; rw [mset_s]), by omega, by rw [show 3 * (w + 1) = 3 * w + 1 + 1 + 1 by omega]; exact hf3, dd⟩
          · right
            rw [if_pos c4] at head
            have hb2 : badW b (3 * w + 2) = true := by
              rw [b2]
              cases h : okW 2 (b (3 * w + 2)) with
              | false => rfl
              | true => exact absurd ⟨by omega, h⟩ c4
            have hfw := fW_hit hf2 hb2 (show 3 * w + 2 < n by omega)
            exact ⟨_, by rw [hfw]; exact head, f3, fun z => by rw [hfw] at z; cases z⟩
      · right
        rw [if_pos c2] at head
        by_cases z : 3 * w + 1 < n
        · have hb1 : badW b (3 * w + 1) = true := by
            rw [b1]
            cases h : okW 1 (b (3 * w + 1)) with
            | false => rfl
            | true => exact absurd ⟨z, h⟩ c2
          have hfw := fW_hit hf1 hb1 z
          exact ⟨_, by rw [hfw]; exact head, f2, fun z => by rw [hfw] at z; cases z⟩
        · have hnn : n = 3 * w + 1 := by omega
          have hfw := fW_end (b := b) (n := n) (by rw [hnn]; exact hf1) (by omega) (by omega)
          exact ⟨_, by rw [hfw, hnn]; rw [hnn] at head; exact head, f2, fun z => by rw [hfw] at z; cases z⟩
    · right
      rw [if_pos c1] at head
      by_cases z : 3 * w < n
      · have hb0 : badW b (3 * w) = true := by
          rw [b0]
          cases h : okW 0 (b (3 * w)) with
          | false => rfl
          | true => exact absurd ⟨z, h⟩ c1
        have hfw := fW_hit hf hb0 z
        exact ⟨_, by rw [hfw]; exact head, f1, fun z => by rw [hfw] at z; cases z⟩
      · have hnn : n = 3 * w := by omega
        have hfw := fW_end (b := b) (n := n) (by rw [hnn]; exact hf) (by omega) (by omega)
        exact ⟨_, by rw [hfw, hnn]; rw [hnn] at head; exact head, f1, fun z => by rw [hfw] at z; cases z⟩
  · rintro m ⟨x, y, M⟩ ⟨e1, e2, f, g, hle, -⟩
    omega
theorem f8_take {mc : Mem} {b : Nat → Nat} {n : Nat} (C : CT mc 2 n b) (hn : n ≤ 23) : ∃ mc', F8_take 6 2 mc = some (en (fW b n), mc') ∧ FI 6 11 mc mc' ∧ CW mc' 6 (nW b n) (stW b) (htW b) ∧ CK mc' 6 (nW b n) (htW b) (nW b n) := by
  have hb : ∀ i, i < n → b i < 256 := fun i hi => (C.2 i hi).2
  have fin : ∀ M, FI 6 11 mc M → CW M 6 (nW b n) (stW b) (htW b) → ∃ mc', F8_take_b32 6 2 (en (fW b n)) M = some (en (fW b n), mc') ∧ FI 6 11 mc mc' ∧ CW mc' 6 (nW b n) (stW b) (htW b) ∧ CK mc' 6 (nW b n) (htW b) (nW b n) := by
    intro M f w
    obtain ⟨M', r1, r2, r3⟩ := f8_rank w
    exact ⟨M', by unfold F8_take_b32; rw [r1]; rfl, f.trans r2.fi, w.fr r2, r3⟩
  unfold F8_take
  simp only [lt]
  have f0 : FW6 mc (mset mc 6 4 0) := FW6.set (fun _ _ _ _ => rfl) _ _ (by omega)
  have toFI : ∀ M, FW6 mc M → FI 6 11 mc M := fun M f k hk => f k (by omega) (by omega) (by omega)
  rw [show (mset mc 6 4 0) 2 1 = nI n from by rw [mset_n (by decide)]; exact C.1]
  by_cases z : n = 0
  · subst z
    rw [if_pos (show nI 0 = 0 from rfl)]
    unfold F8_take_b21
    rw [if_pos rfl]
    have hz : nW b 0 = 0 := by unfold nW fW; rfl
    exact fin (mset mc 6 4 0) (toFI _ f0) ⟨by rw [hz]; decide, by rw [hz]; exact mset_s _ _ _ _, fun k hk => by rw [hz] at hk; omega⟩
  · rw [if_neg (nI_ne0 (by omega) (by omega))]
    obtain ⟨M, r1, r2, r3⟩ := takeW C hn (by omega) f0 (mset_s _ _ _ _)
    rw [r1, Option.bind_some]
    dsimp only
    unfold F8_take_b21
    cases hfw : fW b n with
    | none =>
      rw [if_pos (show en none = -1 from rfl)]
      obtain ⟨g1, g2⟩ := r3 hfw
      have hn2 := fW_none hfw
      have hnw : nW b n = (n + 1) / 3 := by unfold nW; rw [hfw]
      rw [hfw] at fin
      refine fin M (toFI _ r2) ⟨nW_le hn, g1, fun k hk => ⟨(g2 k hk).1, (g2 k hk).2, vW0_lt _, ht_lt hb hn2.1 (by omega)⟩⟩
    | some i =>
      have hi : i < 2 ^ 31 := by
        unfold fW at hfw
        cases hq : fsB (badW b) n with
        | some j => rw [hq] at hfw; cases hfw; have := (fsB_lt hq).1; omega
        | none => rw [hq] at hfw; dsimp only at hfw; split at hfw <;> cases hfw; omega
      have hnw : nW b n = 0 := by unfold nW; rw [hfw]
      rw [if_neg (show ¬ en (some i) = -1 from nI_ne1 hi)]
      rw [hfw] at fin
      refine fin (mset M 6 4 0) (toFI _ (r2.set _ _ (by omega))) ?_
      rw [hnw]
      exact ⟨by decide, mset_s _ _ _ _, fun k hk => by omega⟩
