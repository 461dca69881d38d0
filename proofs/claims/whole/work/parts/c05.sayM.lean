/-! the reference reads its sayings -/
/-- K signs of the saying p stand written -/
def EN (M : Mem) (b : Nat → Nat) (p at0 K : Nat) : Prop := (∀ j, j < K → M 8 (8 * p + (if j < 3 then j else j + 1)) = nI (vS j (b (at0 + j)))) ∧ (0 < K → M 8 (8 * p + 3) = nI (K - 3))
theorem says_head {M : Mem} {c s k i n m : Nat} (hc : c < 256) (hb : M 5 (64 + i) = nI c) (hs : M 0 9 = nI s) (s8 : s ≤ 8) (k7 : k ≤ 7) (hi : i < n) (hn : n ≤ 63) : F10_readsSayings_h16 F10_readsSayings_b85 F10_readsSayings_b174 (m + 1) (nI n) (nI k) (nI i) M = if s < 8 ∧ okS k c = true then F10_readsSayings_h16 F10_readsSayings_b85 F10_readsSayings_b174 m (nI n) (nI (k + 1)) (nI (i + 1)) (mset (mset M 8 (8 * s + (if k < 3 then k else k + 1)) (nI (vS k c))) 8 (8 * s + 3) (nI (k - 2))) else if 3 < k ∧ c = 59 then F10_readsSayings_h16 F10_readsSayings_b85 F10_readsSayings_b174 m (nI n) (nI 0) (nI (i + 1)) (mset M 0 9 (nI (s + 1))) else F10_readsSayings_b85 (nI i) M := by
  have hv9 := tb_vS9 k (by omega) c hc
  have h135 : s < 8 → k < 7 → ∀ x, x = nI (vS k c) → F10_readsSayings_b92 (F10_readsSayings_h16 F10_readsSayings_b85 F10_readsSayings_b174 m) F10_readsSayings_b85 F10_readsSayings_b174 (nI n) (nI k) (nI i) 0 x M = F10_readsSayings_h16 F10_readsSayings_b85 F10_readsSayings_b174 m (nI n) (nI (k + 1)) (nI (i + 1)) (mset (mset M 8 (8 * s + (if k < 3 then k else k + 1)) (nI (vS k c))) 8 (8 * s + 3) (nI (k - 2))) := by
    rintro hs8 hk7 x rfl
    have e9 : ∀ a v, (mset M 8 a v) 0 9 = nI s := fun a v => by rw [mset_n (by decide)]; exact hs
    have z3 : ((3 : Int32) ≤ nI k) = (3 ≤ k) := zl3 (by omega)
    unfold F10_readsSayings_b92 F10_readsSayings_b135 F10_readsSayings_b164 F10_readsSayings_b168
    simp only [lt, z3, e9, hs, zm8, nI_1, nI_add, za3]
    rw [if_pos trivial]
    by_cases c3 : 3 ≤ k
    · rw [if_pos c3, if_pos c3, if_neg (show ¬ k < 3 by omega), ckI (show 8 * s + (k + 1) < 64 by omega) (by decide), nI_clamp (show 8 * s + (k + 1) < 2 ^ 31 by omega), ckI (show 8 * s + 3 < 64 by omega) (by decide), nI_clamp (show 8 * s + 3 < 2 ^ 31 by omega), zs2 (by omega)]
    · rw [if_neg c3, if_neg c3, if_pos (show k < 3 by omega), ckI (show 8 * s + k < 64 by omega) (by decide), nI_clamp (show 8 * s + k < 2 ^ 31 by omega), ckI (show 8 * s + 3 < 64 by omega) (by decide), nI_clamp (show 8 * s + 3 < 2 ^ 31 by omega), show k - 2 = 0 by omega]
      rfl
  have h49 : ∀ nx : Bool, (nx = true → 3 < k ∧ c = 59) → F10_readsSayings_b49 (F10_readsSayings_h16 F10_readsSayings_b85 F10_readsSayings_b174 m) F10_readsSayings_b85 F10_readsSayings_b174 (nI n) (nI k) (nI i) (nI c) (b2i nx) M = if s < 8 ∧ okS k c = true then F10_readsSayings_h16 F10_readsSayings_b85 F10_readsSayings_b174 m (nI n) (nI (k + 1)) (nI (i + 1)) (mset (mset M 8 (8 * s + (if k < 3 then k else k + 1)) (nI (vS k c))) 8 (8 * s + 3) (nI (k - 2))) else if nx = true then F10_readsSayings_h16 F10_readsSayings_b85 F10_readsSayings_b174 m (nI n) (nI 0) (nI (i + 1)) (mset M 0 9 (nI (s + 1))) else F10_readsSayings_b85 (nI i) M := by
    intro nx hnx
    have miss : F10_readsSayings_b71 (F10_readsSayings_h16 F10_readsSayings_b85 F10_readsSayings_b174 m) F10_readsSayings_b85 F10_readsSayings_b174 (nI n) (nI k) (nI i) (b2i nx) (-9) M = if nx = true then F10_readsSayings_h16 F10_readsSayings_b85 F10_readsSayings_b174 m (nI n) (nI 0) (nI (i + 1)) (mset M 0 9 (nI (s + 1))) else F10_readsSayings_b85 (nI i) M := by
      unfold F10_readsSayings_b71
      rw [if_pos rfl]
      cases nx with
      | false => rw [if_pos (show b2i false = 0 from rfl), if_neg (by decide)]
      | true =>
        rw [if_neg (show ¬ b2i true = 0 by decide), if_pos rfl]
        unfold F10_readsSayings_b92 F10_readsSayings_b168
        rw [if_neg (show ¬ b2i true = 0 by decide), hs, nI_1, nI_1]
        rfl
    unfold F10_readsSayings_b49
    rw [hs]
    by_cases h8 : s < 8
    · rw [if_neg (show ¬ (8 : Int32) ≤ nI s from nI_ge (b := 8) h8 (by decide)), tb_sayOf k (by omega) c hc, Option.bind_some]
      by_cases ho : okS k c = true
      · rw [if_pos ho, if_pos ⟨h8, ho⟩]
        have hf : nx = false := by
          cases nx with
          | false => rfl
          | true =>
            have := (hnx rfl).2
            rw [this, tb_next k (by omega)] at ho; cases ho
        subst hf
        unfold F10_readsSayings_b71
        rw [if_neg hv9]
        refine h135 h8 ?_ _ rfl
        rcases Nat.lt_or_ge k 7 with y | y
        · exact y
        · rw [okS7 y] at ho; cases ho
      · rw [if_neg ho, if_neg (fun z => ho z.2)]
        exact miss
    · rw [if_pos (show (8 : Int32) ≤ nI s from nI_le (a := 8) (by omega) (by omega)), if_neg (fun z => h8 z.1)]
      exact miss
  show F10_readsSayings_p16 _ _ _ (nI n) (nI k) (nI i) M = _
  unfold F10_readsSayings_p16 F10_readsSayings_b48
  have z3 : (nI k ≤ (3 : Int32)) = (k ≤ 3) := zg3 (by omega)
  have z59 : (nI c = (59 : Int32)) = (c = 59) := eqI (b := 59) (by omega) (by decide)
  rw [if_neg (nI_ge hi (by omega)), show (64 : Int32) + nI i = nI (64 + i) from nI_add 64 i, ckI (show 64 + i < 128 by omega) (by decide), nI_clamp (show 64 + i < 2 ^ 31 by omega), hb]
  simp only [z3, z59]
  have hf := h49 false (fun z => by cases z)
  rw [if_neg (show ¬ (false = true) by decide)] at hf
  by_cases c1 : k ≤ 3
  · rw [if_pos c1, if_neg (show ¬ (3 < k ∧ c = 59) by omega)]
    exact hf
  · rw [if_neg c1]
    by_cases c2 : c = 59
    · rw [if_pos c2, if_pos (show 3 < k ∧ c = 59 from ⟨by omega, c2⟩)]
      have ht := h49 true (fun _ => ⟨by omega, c2⟩)
      rw [if_pos rfl] at ht
      exact ht
    · rw [if_neg c2, if_neg (show ¬ (3 < k ∧ c = 59) from fun z => c2 z.2)]
      exact hf
/-- the reference's sayings, as far as the text was read -/
def EA (M : Mem) (b : Nat → Nat) (X : PS) : Prop := M 0 9 = nI X.2.1 ∧ EN M b X.2.1 (X.2.2.2.1 X.2.1) X.2.2.1 ∧ ∀ p, p < X.2.1 → EN M b p (X.2.2.2.1 p) (X.2.2.2.2 p + 3)
theorem EN.off {M : Mem} {b : Nat → Nat} {p at0 K i : Nat} {v : Int32} (e : EN M b p at0 K) (hK : K ≤ 7) (hi : i < 8 * p ∨ 8 * p + 8 ≤ i) : EN (mset M 8 i v) b p at0 K := by
  refine ⟨fun j hj => ?_, fun h => ?_⟩
  · rw [mset_o (by split <;> omega)]; exact e.1 j hj
  · rw [mset_o (by omega)]; exact e.2 h
theorem EN.z {M : Mem} {b : Nat → Nat} {p at0 K : Nat} {v : Int32} (e : EN M b p at0 K) (i : Nat) : EN (mset M 0 i v) b p at0 K := by
  unfold EN
  rw [mset_n (show 8 ≠ 0 by decide)]
  exact e
theorem r_readsSays {mm : Mem} {b : Nat → Nat} {n : Nat} (h6 : mm 6 1 = nI n) (h5 : ∀ i, i < n → mm 5 (64 + i) = nI (b i)) (hb : ∀ i, i < n → b i < 256) (hn : n ≤ 63) : ∃ mm', F10_readsSayings mm = some (en (fS b n), mm') ∧ (∀ k, k ≠ 0 → k ≠ 8 → mm' k = mm k) ∧ (∀ i, i ≠ 9 → mm' 0 i = mm 0 i) ∧ MSL mm' (nS b n) (ssS b n) (ltS b n) := by
  unfold F10_readsSayings
  simp only [lt]
  rw [show (mset mm 0 9 0) 6 (1 : Int32).toNatClampNeg = nI n from by rw [mset_n (by decide)]; exact h6]
  refine lpF (fun m (s : Int32 × Int32 × Mem) => F10_readsSayings_h16 F10_readsSayings_b85 F10_readsSayings_b174 m (nI n) s.1 s.2.1 s.2.2) (fun i s => s.1 = nI (pS b i).2.2.1 ∧ s.2.1 = nI i ∧ (pS b i).1 = none ∧ (∀ k, k ≠ 0 → k ≠ 8 → s.2.2 k = mm k) ∧ (∀ j, j ≠ 9 → s.2.2 0 j = mm 0 j) ∧ EA s.2.2 b (pS b i)) (fun r => ∃ mm', r = some (en (fS b n), mm') ∧ (∀ k, k ≠ 0 → k ≠ 8 → mm' k = mm k) ∧ (∀ i, i ≠ 9 → mm' 0 i = mm 0 i) ∧ MSL mm' (nS b n) (ssS b n) (ltS b n)) n (by omega) ?_ ?_ (0, 0, mset mm 0 9 0) ⟨rfl, rfl, rfl, fun k h1 _ => by dsimp only; rw [mset_n h1], fun j hj => by dsimp only; rw [mset_o hj], mset_s mm 0 9 0, ⟨fun j hj => absurd hj (Nat.not_lt_zero j), fun z => absurd z (Nat.lt_irrefl 0)⟩, fun p hp => absurd hp (Nat.not_lt_zero p)⟩
  · rintro m i ⟨x, y, M⟩ hi ⟨e1, e2, h0, f, g, E⟩
    dsimp only at e1 e2 f g E
    subst e1 e2
    have P := pS_inv b i h0
    have hX : ∃ s k po sz, pS b i = (none, s, k, po, sz) := ⟨(pS b i).2.1, (pS b i).2.2.1, (pS b i).2.2.2.1, (pS b i).2.2.2.2, by rw [← h0]⟩
    obtain ⟨s, k, po, sz, hX⟩ := hX
    rw [hX] at E P
    obtain ⟨p1, p2, p3, p4, p5, p6, p7⟩ := P
    obtain ⟨E1, E2, E3⟩ := E
    dsimp only at p1 p2 p3 p4 p5 p6 p7 E1 E2 E3
    have head := says_head (m := m) (hb i hi) (show M 5 (64 + i) = nI (b i) from by rw [f 5 (by decide) (by decide)]; exact h5 i hi) E1 p2 p3 hi hn
    rw [show (pS b i).2.2.1 = k from by rw [hX]]
    by_cases c1 : s < 8 ∧ okS k (b i) = true
    · left
      rw [if_pos c1] at head
      have k7 : k < 7 := by
        rcases Nat.lt_or_ge k 7 with y | y
        · exact y
        · rw [okS7 y] at c1; cases c1.2
      have hN : pS b (i + 1) = (none, s, k + 1, po, setF sz s (k - 2)) := by rw [pS_s, hX, stp_ok c1.1 c1.2]
      refine ⟨(nI (k + 1), nI (i + 1), mset (mset M 8 (8 * s + (if k < 3 then k else k + 1)) (nI (vS k (b i)))) 8 (8 * s + 3) (nI (k - 2))), head, by rw [hN], rfl, by rw [hN], fun k h1 h2 => by dsimp only; rw [mset_n h2, mset_n h2]; exact f k h1 h2, fun j hj => by dsimp only; rw [mset_n (by decide), mset_n (by decide)]; exact g j hj, ?_⟩
      rw [hN]
      refine ⟨by dsimp only; rw [mset_n (by decide), mset_n (by decide)]; exact E1, ⟨fun j hj => ?_, fun _ => by dsimp only; rw [mset_s]; congr 1⟩, fun p hp => ?_⟩
      · dsimp only at hj ⊢
        rw [mset_o (by split <;> omega)]
        by_cases e : j = k
        · subst e
          rw [mset_s, p1]
        · rw [mset_o (by split <;> split <;> omega)]
          exact E2.1 j (by omega)
      · dsimp only at hp ⊢
        have := (p7 p hp).2.2.1
        rw [setF_n (show ¬ p = s by omega)]
        exact ((E3 p hp).off (by omega) (by omega)).off (by omega) (by omega)
    · by_cases c2 : 3 < k ∧ b i = 59
      · left
        rw [if_neg c1, if_pos c2] at head
        have hN : pS b (i + 1) = (none, s + 1, 0, setF po (s + 1) (i + 1), sz) := by rw [pS_s, hX, stp_next c1 c2]
        refine ⟨(nI 0, nI (i + 1), mset M 0 9 (nI (s + 1))), head, by rw [hN], rfl, by rw [hN], fun k h1 h2 => by dsimp only; rw [mset_n h1]; exact f k h1 h2, fun j hj => by dsimp only; rw [mset_o hj]; exact g j hj, ?_⟩
        rw [hN]
        refine ⟨by dsimp only; rw [mset_s], ⟨fun j hj => absurd hj (Nat.not_lt_zero j), fun z => absurd z (Nat.lt_irrefl 0)⟩, fun p hp => ?_⟩
        dsimp only at hp ⊢
        rw [setF_n (show ¬ p = s + 1 by omega)]
        by_cases e : p = s
        · subst e
          have h3 := p5 (by omega)
          rw [h3, show k - 3 + 3 = k by omega]
          exact E2.z 9
        · exact (E3 p (by omega)).z 9
      · right
        rw [if_neg c1, if_neg c2] at head
        have hfs := fS_hit hX c1 c2 hi
        have hns : nS b n = 0 := by unfold nS; rw [hfs]
        refine ⟨mset M 0 9 0, ?_, fun k h1 h2 => by rw [mset_n h1]; exact f k h1 h2, fun j hj => by rw [mset_o hj]; exact g j hj, ?_⟩
        · show F10_readsSayings_h16 _ _ (m + 1) (nI n) (nI k) (nI i) M = _
          rw [head, hfs]; rfl
        · rw [hns]
          exact ⟨⟨by decide, mset_s _ _ _ _, fun p hp => by omega⟩, fun p hp => by omega, fun p hp => by omega⟩
  · rintro m ⟨x, y, M⟩ ⟨e1, e2, h0, f, g, E⟩
    dsimp only at e1 e2 f g E
    have P := pS_inv b n h0
    have hX : ∃ s k po sz, pS b n = (none, s, k, po, sz) := ⟨(pS b n).2.1, (pS b n).2.2.1, (pS b n).2.2.2.1, (pS b n).2.2.2.2, by rw [← h0]⟩
    obtain ⟨s, k, po, sz, hX⟩ := hX
    rw [hX] at E P
    rw [show (pS b n).2.2.1 = k from by rw [hX]] at e1
    obtain ⟨p1, p2, p3, p4, p5, p6, p7⟩ := P
    obtain ⟨E1, E2, E3⟩ := E
    dsimp only at p1 p2 p3 p4 p5 p6 p7 E1 E2 E3
    have head : F10_readsSayings_h16 F10_readsSayings_b85 F10_readsSayings_b174 (m + 1) (nI n) x y M = if n = 0 ∨ 4 ≤ k then some (-1, mset M 0 9 (nI (s + (if 0 < n then 1 else 0)))) else some (nI n, mset M 0 9 0) := by
      show F10_readsSayings_p16 _ _ _ (nI n) x y M = _
      unfold F10_readsSayings_p16 F10_readsSayings_b174 F10_readsSayings_b190 F10_readsSayings_b204
      have z0 : (nI n ≤ (0 : Int32)) = (n ≤ 0) := zg0 (by omega)
      have z4 : ((4 : Int32) ≤ nI k) = (4 ≤ k) := zl4 (by omega)
      rw [e1, e2, if_pos (nI_le (Nat.le_refl _) (by omega)), E1]
      simp only [z0, z4]
      by_cases a1 : n = 0
      · rw [if_pos (show n ≤ 0 by omega), if_pos (Or.inl a1), if_neg (show ¬ 0 < n by omega), if_pos (show n ≤ 0 by omega)]
        rw [show (0 : Int32) = nI 0 from rfl, nI_add]
      · rw [if_neg (show ¬ n ≤ 0 by omega), if_neg (show ¬ n ≤ 0 by omega), if_pos (show 0 < n by omega), nI_1]
        by_cases a2 : 4 ≤ k
        · rw [if_pos a2, if_pos (Or.inr a2)]
        · rw [if_neg a2, if_neg (by omega)]
    by_cases a : n = 0 ∨ 4 ≤ k
    · rw [if_pos a] at head
      have hfs := fS_ok hX a
      have hns : nS b n = s + (if 0 < n then 1 else 0) := by unfold nS; rw [hfs, hX]
      have hok := nS_ok hb hfs
      refine ⟨mset M 0 9 (nI (s + (if 0 < n then 1 else 0))), by rw [hfs]; exact head, fun k h1 h2 => by rw [mset_n h1]; exact f k h1 h2, fun j hj => by rw [mset_o hj]; exact g j hj, ?_⟩
      have hEN : ∀ p, p < nS b n → EN (mset M 0 9 (nI (s + (if 0 < n then 1 else 0)))) b p ((pS b n).2.2.2.1 p) ((pS b n).2.2.2.2 p + 3) := by
        intro p hp
        rw [hX]
        dsimp only
        rw [hns] at hp
        by_cases e : p < s
        · exact (E3 p e).z 9
        · have hn0 : 0 < n := by
            rcases Nat.eq_zero_or_pos n with y | y
            · subst y
              rw [if_neg (by omega)] at hp; omega
            · exact y
          rw [if_pos hn0] at hp
          have ep : p = s := by omega
          subst ep
          have h3 := p5 (by omega)
          rw [h3, show k - 3 + 3 = k by omega]
          exact E2.z 9
      refine ⟨⟨hok.1, by rw [hns, mset_s], fun p hp => ?_⟩, fun p hp => (hok.2 p hp).1, fun p hp j hj => ?_⟩
      · have ko := (hok.2 p hp).1
        obtain ⟨q1, q2⟩ := hEN p hp
        refine ⟨⟨?_, ?_, ?_, ?_⟩, ko.1, ko.2.1, ko.2.2.1, ko.2.2.2.1, by have := ko.2.2.2.2; omega⟩
        · have := q1 0 (by omega); rw [if_pos (show 0 < 3 by decide)] at this; exact this
        · have := q1 1 (by omega); rw [if_pos (show 1 < 3 by decide)] at this; exact this
        · have := q1 2 (by omega); rw [if_pos (show 2 < 3 by decide)] at this; exact this
        · have := q2 (by omega); rw [Nat.add_sub_cancel] at this; exact this
      · obtain ⟨q1, q2⟩ := hEN p hp
        have := q1 (3 + j) (by show 3 + j < (pS b n).2.2.2.2 p + 3; have : j < (pS b n).2.2.2.2 p := hj; omega)
        rw [if_neg (show ¬ 3 + j < 3 by omega), vS3 (show 3 ≤ 3 + j by omega)] at this
        rw [show 8 * p + 4 + j = 8 * p + (3 + j + 1) by omega, this]
        unfold ltS
        rw [Nat.add_assoc]
    · rw [if_neg a] at head
      have hfs := fS_end hX (by omega) (by omega)
      have hns : nS b n = 0 := by unfold nS; rw [hfs]
      refine ⟨mset M 0 9 0, by rw [hfs]; exact head, fun k h1 h2 => by rw [mset_n h1]; exact f k h1 h2, fun j hj => by rw [mset_o hj]; exact g j hj, ?_⟩
      rw [hns]
      exact ⟨⟨by decide, mset_s _ _ _ _, fun p hp => by omega⟩, fun p hp => by omega, fun p hp => by omega⟩
