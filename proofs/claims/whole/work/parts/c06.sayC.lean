/-! the class takes its sayings -/
theorem tb_sS0 : ∀ c, c < 256 → F0_indexOf_0f7a4 1 (nI c) = some (if okS 0 c then nI (vS 0 c) else -1) := by decide +kernel
theorem tb_sS1 : ∀ c, c < 256 → F0_indexOf_0f7a4 2 (nI c) = some (if okS 1 c then nI (vS 1 c) else -1) := by decide +kernel
theorem tb_sS2 : ∀ c, c < 256 → F0_indexOf_0f7a4 3 (nI c) = some (if okS 2 c then nI (vS 2 c) else -1) := by decide +kernel
theorem tb_sS3 : ∀ c, c < 256 → F0_indexOf_0f7a4 4 (nI c) = some (if okS 3 c then nI (vS 3 c) else -1) := by decide +kernel
theorem tb_vSm : ∀ k, k < 4 → ∀ c, c < 256 → ¬ nI (vS k c) = -1 := by decide +kernel
def sgS (b : Nat → Nat) (n k i : Nat) : Int32 := if i < n ∧ okS k (b i) = true then nI (vS k (b i)) else -1
theorem sgS_m {b : Nat → Nat} {n k i : Nat} (hb : ∀ i, i < n → b i < 256) (hk : k < 4) : (sgS b n k i = -1) = ¬ (i < n ∧ okS k (b i) = true) := by
  unfold sgS
  by_cases c : i < n ∧ okS k (b i) = true
  · rw [if_pos c]
    exact propext ⟨fun z => absurd z (tb_vSm k hk _ (hb i c.1)), fun z => absurd c z⟩
  · rw [if_neg c]
    exact propext ⟨fun _ => c, fun _ => rfl⟩
theorem sg_S0 {mc : Mem} {n i : Nat} {b : Nat → Nat} (C : CT mc 4 n b) (hn : n ≤ 63) (hi : i < 1000) : F7_sign 4 (nI i) 1 mc = some (sgS b n 0 i) := by
  rw [f7_sign C (show n ≤ ln (4 + 1) from hn) (show ln (4 + 1) < 1000 by decide) hi]
  unfold sgS
  by_cases c : i < n
  · rw [if_pos c, tb_sS0 _ (C.2 i c).2]; simp only [c, true_and]
  · rw [if_neg c, if_neg (fun z => c z.1)]
theorem sg_S1 {mc : Mem} {n i : Nat} {b : Nat → Nat} (C : CT mc 4 n b) (hn : n ≤ 63) (hi : i < 1000) : F7_sign 4 (nI i) 2 mc = some (sgS b n 1 i) := by
  rw [f7_sign C (show n ≤ ln (4 + 1) from hn) (show ln (4 + 1) < 1000 by decide) hi]
  unfold sgS
  by_cases c : i < n
  · rw [if_pos c, tb_sS1 _ (C.2 i c).2]; simp only [c, true_and]
  · rw [if_neg c, if_neg (fun z => c z.1)]
theorem sg_S2 {mc : Mem} {n i : Nat} {b : Nat → Nat} (C : CT mc 4 n b) (hn : n ≤ 63) (hi : i < 1000) : F7_sign 4 (nI i) 3 mc = some (sgS b n 2 i) := by
  rw [f7_sign C (show n ≤ ln (4 + 1) from hn) (show ln (4 + 1) < 1000 by decide) hi]
  unfold sgS
  by_cases c : i < n
  · rw [if_pos c, tb_sS2 _ (C.2 i c).2]; simp only [c, true_and]
  · rw [if_neg c, if_neg (fun z => c z.1)]
theorem sg_S3 {mc : Mem} {n i : Nat} {b : Nat → Nat} (C : CT mc 4 n b) (hn : n ≤ 63) (hi : i < 1000) : F7_sign 4 (nI i) 4 mc = some (sgS b n 3 i) := by
  rw [f7_sign C (show n ≤ ln (4 + 1) from hn) (show ln (4 + 1) < 1000 by decide) hi]
  unfold sgS
  by_cases c : i < n
  · rw [if_pos c, tb_sS3 _ (C.2 i c).2]; simp only [c, true_and]
  · rw [if_neg c, if_neg (fun z => c z.1)]
theorem sg_S9 {mc : Mem} {n i : Nat} {b : Nat → Nat} (C : CT mc 4 n b) (hn : n ≤ 63) (hi : i < 1000) : F7_sign 4 (nI i) 0 mc = some (if i < n ∧ b i = 59 then 0 else -1) := by
  rw [f7_sign C (show n ≤ ln (4 + 1) from hn) (show ln (4 + 1) < 1000 by decide) hi]
  by_cases c : i < n
  · rw [if_pos c, tb_sg0 _ (C.2 i c).2]; simp only [c, true_and]
  · rw [if_neg c, if_neg (fun z => c z.1)]
def szr (sz : Nat → Nat) (s K : Nat) : Nat → Nat := if K = 0 then sz else setF sz s (K - 3)
theorem pS_run {b : Nat → Nat} {i s : Nat} {po sz : Nat → Nat} (h : pS b i = (none, s, 0, po, sz)) (hs : s < 8) : ∀ K, (∀ j, j < K → okS j (b (i + j)) = true) → pS b (i + K) = (none, s, K, po, szr sz s K) := by
  intro K
  induction K with
  | zero => intro _; exact h
  | succ K ih =>
    intro ho
    show stp b (i + K) (pS b (i + K)) = _
    rw [ih (fun j hj => ho j (by omega)), stp_ok hs (ho K (by omega))]
    congr 1
    congr 1
    congr 1
    congr 1
    unfold szr
    rw [if_neg (show ¬ K + 1 = 0 by omega)]
    by_cases z : K = 0
    · subst z; rw [if_pos rfl]
    · rw [if_neg z, setF_2]; congr 1
theorem takeWord {M : Mem} {b : Nat → Nat} {n i s : Nat} (C : CT M 4 n b) (hn : n ≤ 63) (hs : s < 8) (hi : i ≤ n) : ∃ m M', F5_takeWord 11 4 (nI i) (nI s) M = some (nI m, M') ∧ m ≤ 4 ∧ i + m ≤ n ∧ (∀ j, j < m → okS 3 (b (i + j)) = true) ∧ (m < 4 → ¬ (i + m < n ∧ okS 3 (b (i + m)) = true)) ∧ FI 16 17 M M' ∧ (∀ j, j < m → M' 16 (s * 4 + j) = nI (vS 3 (b (i + j)))) ∧ ∀ q, (q < s * 4 ∨ s * 4 + 4 ≤ q) → M' 16 q = M 16 q := by
  have hb : ∀ i, i < n → b i < 256 := fun i hi => (C.2 i hi).2
  unfold F5_takeWord
  refine lpF (fun x (t : Int32 × Mem) => F5_takeWord_h3 11 4 (nI i) (nI s) x t.1 t.2) (fun m t => t.1 = nI m ∧ i + m ≤ n ∧ (∀ j, j < m → okS 3 (b (i + j)) = true) ∧ FI 16 17 M t.2 ∧ (∀ j, j < m → t.2 16 (s * 4 + j) = nI (vS 3 (b (i + j)))) ∧ ∀ q, (q < s * 4 ∨ s * 4 + 4 ≤ q) → t.2 16 q = M 16 q) (fun r => ∃ m M', r = some (nI m, M') ∧ m ≤ 4 ∧ i + m ≤ n ∧ (∀ j, j < m → okS 3 (b (i + j)) = true) ∧ (m < 4 → ¬ (i + m < n ∧ okS 3 (b (i + m)) = true)) ∧ FI 16 17 M M' ∧ (∀ j, j < m → M' 16 (s * 4 + j) = nI (vS 3 (b (i + j)))) ∧ ∀ q, (q < s * 4 ∨ s * 4 + 4 ≤ q) → M' 16 q = M 16 q) 4 (by decide) ?_ ?_ (0, M) ⟨rfl, by omega, fun j hj => by omega, FI.refl _ _ _, fun j hj => by omega, fun _ _ => rfl⟩
  · rintro x m ⟨y, M1⟩ hm ⟨e1, h1, h2, f, d, g⟩
    dsimp only at e1 f d g
    subst e1
    have C1 : CT M1 4 n b := C.ag (by rw [f 4 (by omega)]) (f (4 + 1) (by omega))
    have hsg := sg_S3 (i := i + m) C1 hn (by omega)
    have hm1 := sgS_m (b := b) (n := n) (i := i + m) hb (show 3 < 4 by decide)
    have head : F5_takeWord_h3 11 4 (nI i) (nI s) (x + 1) (nI m) M1 = if ¬ (i + m < n ∧ okS 3 (b (i + m)) = true) then some (nI m, M1) else F5_takeWord_h3 11 4 (nI i) (nI s) x (nI (m + 1)) (mset M1 16 (s * 4 + m) (sgS b n 3 (i + m))) := by
      show F5_takeWord_p3 _ 11 4 (nI i) (nI s) (nI m) M1 = _
      unfold F5_takeWord_p3
      rw [if_neg (show ¬ (4 : Int32) ≤ nI m from nI_ge (b := 4) hm (by decide)), nI_add, hsg, Option.bind_some, zr4, nI_add, ckI (show s * 4 + m < 32 by omega) (by decide), nI_clamp (show s * 4 + m < 2 ^ 31 by omega), nI_1]
      simp only [hm1]
    by_cases c : i + m < n ∧ okS 3 (b (i + m)) = true
    · left
      rw [if_neg (fun z => z c)] at head
      refine ⟨(nI (m + 1), mset M1 16 (s * 4 + m) (sgS b n 3 (i + m))), head, rfl, by omega, fun j hj => ?_, f.set _ _ _ (by omega), fun j hj => ?_, fun q hq => by dsimp only; rw [mset_o (by omega)]; exact g q hq⟩
      · by_cases e : j = m
        · subst e; exact c.2
        · exact h2 j (by omega)
      · dsimp only
        by_cases e : j = m
        · subst e; rw [mset_s]; unfold sgS; rw [if_pos c]
        · rw [mset_o (by omega)]; exact d j (by omega)
    · right
      rw [if_pos c] at head
      exact ⟨m, M1, head, by omega, h1, h2, fun _ => c, f, d, g⟩
  · rintro x ⟨y, M1⟩ ⟨e1, h1, h2, f, d, g⟩
    dsimp only at e1 f d g
    subst e1
    exact ⟨4, M1, rfl, by decide, h1, h2, fun z => absurd z (by decide), f, d, g⟩
/-- the class's saying p, as it was taken -/
def AR (M : Mem) (b : Nat → Nat) (p at0 z : Nat) : Prop := M 12 p = nI (vS 0 (b at0)) ∧ M 13 p = nI (vS 1 (b (at0 + 1))) ∧ M 14 p = nI (vS 2 (b (at0 + 2))) ∧ M 15 p = nI z ∧ ∀ j, j < z → M 16 (p * 4 + j) = nI (vS 3 (b (at0 + 3 + j)))
/-- only what is taken of sayings has changed -/
def FS11 (mc M : Mem) : Prop := (∀ k, k < 11 ∨ 17 ≤ k → M k = mc k)
theorem FS11.set {mc M : Mem} (f : FS11 mc M) {k : Nat} (i : Nat) (v : Int32) (h : 11 ≤ k ∧ k < 17) : FS11 mc (mset M k i v) := fun j hj => by rw [mset_n (by omega)]; exact f j hj
theorem f5_head {M : Mem} {b : Nat → Nat} {n i s : Nat} {mc : Mem} (C : CT mc 4 n b) (f : FS11 mc M) (hn : n ≤ 63) (hs : s < 8) (hi : i ≤ n) : F5_takeHead 11 4 (nI i) (nI s) M = if ¬ (i < n ∧ okS 0 (b i) = true) then some (nI i, mset M 12 s (sgS b n 0 i)) else if ¬ (i + 1 < n ∧ okS 1 (b (i + 1)) = true) then some (nI (i + 1), mset (mset M 12 s (sgS b n 0 i)) 13 s (sgS b n 1 (i + 1))) else if ¬ (i + 2 < n ∧ okS 2 (b (i + 2)) = true) then some (nI (i + 2), mset (mset (mset M 12 s (sgS b n 0 i)) 13 s (sgS b n 1 (i + 1))) 14 s (sgS b n 2 (i + 2))) else some (-1, mset (mset (mset M 12 s (sgS b n 0 i)) 13 s (sgS b n 1 (i + 1))) 14 s (sgS b n 2 (i + 2))) := by
  have hb : ∀ i, i < n → b i < 256 := fun i hi => (C.2 i hi).2
  have CM : ∀ X : Mem, FS11 mc X → CT X 4 n b := fun X fX => C.ag (by rw [fX 4 (by omega)]) (fX (4 + 1) (by omega))
  have f1 : FS11 mc (mset M 12 s (sgS b n 0 i)) := f.set _ _ (by omega)
  have f2 : FS11 mc (mset (mset M 12 s (sgS b n 0 i)) 13 s (sgS b n 1 (i + 1))) := f1.set _ _ (by omega)
  have t0 := sgS_m (b := b) (n := n) (i := i) hb (show 0 < 4 by decide)
  have t1 := sgS_m (b := b) (n := n) (i := i + 1) hb (show 1 < 4 by decide)
  have t2 := sgS_m (b := b) (n := n) (i := i + 2) hb (show 2 < 4 by decide)
  unfold F5_takeHead
  simp only [lt]
  rw [sg_S0 (CM M f) hn (by omega), Option.bind_some]
  simp only [ckI hs (show 8 < 2 ^ 31 by decide), nI_clamp (show s < 2 ^ 31 by omega), show (11 + 1 : Nat) = 12 from rfl, show (11 + 2 : Nat) = 13 from rfl, show (11 + 3 : Nat) = 14 from rfl, nI_1, za2]
  rw [sg_S1 (CM _ f1) hn (by omega), Option.bind_some, mset_s, mset_s, sg_S2 (CM _ f2) hn (by omega), Option.bind_some, mset_s]
  simp only [t0, t1, t2]
theorem takeS {mc M0 : Mem} {b : Nat → Nat} {n : Nat} (C : CT mc 4 n b) (hn : n ≤ 63) (h0 : 0 < n) (f0 : FS11 mc M0) (g0 : M0 11 5 = nI 0) : ∃ mc', F5_takeAll 11 4 M0 = some (en (fS b n), mc') ∧ FS11 mc mc' ∧ (fS b n = none → mc' 11 5 = nI (nS b n) ∧ ∀ p, p < nS b n → AR mc' b p ((pS b n).2.2.2.1 p) ((pS b n).2.2.2.2 p)) := by
  have hb : ∀ i, i < n → b i < 256 := fun i hi => (C.2 i hi).2
  unfold F5_takeAll
  refine lpF (fun m (t : Int32 × Int32 × Mem) => F5_takeAll_h4 11 4 m t.1 t.2.1 t.2.2) (fun s t => ∃ i po sz, t.1 = nI i ∧ t.2.1 = nI s ∧ FS11 mc t.2.2 ∧ t.2.2 11 5 = nI s ∧ i ≤ n ∧ pS b i = (none, s, 0, po, sz) ∧ ∀ p, p < s → AR t.2.2 b p (po p) (sz p)) (fun r => ∃ mc', r = some (en (fS b n), mc') ∧ FS11 mc mc' ∧ (fS b n = none → mc' 11 5 = nI (nS b n) ∧ ∀ p, p < nS b n → AR mc' b p ((pS b n).2.2.2.1 p) ((pS b n).2.2.2.2 p))) 8 (by decide) ?_ ?_ (0, 0, M0) ⟨0, _, _, rfl, rfl, f0, g0, by omega, rfl, fun p hp => by omega⟩
  · rintro m s ⟨x, y, M⟩ hs ⟨i, po, sz, e1, e2, f, g, hle, hX, d⟩
    dsimp only at e1 e2 f g d
    subst e1 e2
    have P := pS_inv b i (by rw [hX])
    rw [hX] at P
    obtain ⟨p1, p2, p3, p4, p5, p6, p7⟩ := P
    dsimp only at p1 p7
    have run := pS_run hX hs
    have hd := f5_head C f hn hs hle
    have f1 : FS11 mc (mset M 12 s (sgS b n 0 i)) := f.set _ _ (by omega)
    have f2 : FS11 mc (mset (mset M 12 s (sgS b n 0 i)) 13 s (sgS b n 1 (i + 1))) := f1.set _ _ (by omega)
    have f3 : FS11 mc (mset (mset (mset M 12 s (sgS b n 0 i)) 13 s (sgS b n 1 (i + 1))) 14 s (sgS b n 2 (i + 2))) := f2.set _ _ (by omega)
    have stop : ∀ (K : Nat) (M1 : Mem), K < 4 → FS11 mc M1 → (∀ j, j < K → okS j (b (i + j)) = true) → i + K ≤ n → ¬ (i + K < n ∧ okS K (b (i + K)) = true) → F5_takeAll_h4 11 4 (m + 1) (nI i) (nI s) M = some (nI (i + K), M1) → ∃ mc', F5_takeAll_h4 11 4 (m + 1) (nI i) (nI s) M = some (en (fS b n), mc') ∧ FS11 mc mc' ∧ (fS b n = none → mc' 11 5 = nI (nS b n) ∧ ∀ p, p < nS b n → AR mc' b p ((pS b n).2.2.2.1 p) ((pS b n).2.2.2.2 p)) := by
      intro K M1 hK fM ho hKn hbad he
      have hp := run K ho
      have hfs : fS b n = some (i + K) := by
        by_cases z : i + K < n
        · exact fS_hit hp (fun y => hbad ⟨z, y.2⟩) (by omega) z
        · have : n = i + K := by omega
          have := fS_end (n := n) (by rw [this]; exact hp) h0 hK
          rw [this]; congr 1
      exact ⟨M1, by rw [he, hfs]; rfl, fM, fun y => by rw [hfs] at y; cases y⟩
    have head : F5_takeAll_h4 11 4 (m + 1) (nI i) (nI s) M = (F5_takeHead 11 4 (nI i) (nI s) M).bind (fun q9 => (if q9.1 = (-1 : Int32) then ((F5_takeWord 11 4 (nI (i + 3)) (nI s) q9.2).bind (fun q10 => (if q10.1 = (0 : Int32) then some (nI (i + 3), mset q10.2 15 s q10.1) else (if (nI (i + 3) + q10.1) = (mset (mset q10.2 15 s q10.1) 11 5 (nI (s + 1))) 4 1 then some ((-1 : Int32), mset (mset q10.2 15 s q10.1) 11 5 (nI (s + 1))) else ((F7_sign 4 (nI (i + 3) + q10.1) 0 (mset (mset q10.2 15 s q10.1) 11 5 (nI (s + 1)))).bind (fun q16 => (if q16 = (-1 : Int32) then some ((nI (i + 3) + q10.1), mset (mset q10.2 15 s q10.1) 11 5 (nI (s + 1))) else F5_takeAll_h4 11 4 m ((nI (i + 3) + q10.1) + (1 : Int32)) (nI (s + 1)) (mset (mset q10.2 15 s q10.1) 11 5 (nI (s + 1)))))))))) else some (q9.1, q9.2))) := by
      show F5_takeAll_p4 _ 11 4 (nI i) (nI s) M = _
      unfold F5_takeAll_p4
      rw [if_neg (show ¬ (8 : Int32) ≤ nI s from nI_ge (b := 8) hs (by decide))]
      have e15 : ∀ (X : Mem) v w, (mset (mset X 15 s v) 11 5 w) 15 s = v := fun X v w => by rw [mset_n (by decide), mset_s]
      simp only [lt, ckI hs (show 8 < 2 ^ 31 by decide), nI_clamp (show s < 2 ^ 31 by omega), show (11 + 4 : Nat) = 15 from rfl, nI_1, za3, mset_s, e15]
    rw [hd] at head
    by_cases c0 : i < n ∧ okS 0 (b i) = true
    · rw [if_neg (fun z => z c0)] at head
      by_cases c1 : i + 1 < n ∧ okS 1 (b (i + 1)) = true
      · rw [if_neg (fun z => z c1)] at head
        have ok2 : ∀ j, j < 2 → okS j (b (i + j)) = true := fun j hj => by
          rcases (show j = 0 ∨ j = 1 by omega) with rfl | rfl
          · exact c0.2
          · exact c1.2
        by_cases c2 : i + 2 < n ∧ okS 2 (b (i + 2)) = true
        · rw [if_neg (fun z => z c2), Option.bind_some] at head
          dsimp only at head
          rw [if_pos rfl] at head
          have CM3 : CT (mset (mset (mset M 12 s (sgS b n 0 i)) 13 s (sgS b n 1 (i + 1))) 14 s (sgS b n 2 (i + 2))) 4 n b := C.ag (by rw [f3 4 (by omega)]) (f3 (4 + 1) (by omega))
          obtain ⟨w, M4, w1, w2, w3, w4, w5, w6, w7, w8⟩ := takeWord (i := i + 3) CM3 hn hs (by omega)
          rw [w1, Option.bind_some] at head
          dsimp only at head
          have f4 : FS11 mc M4 := fun k hk => by rw [w6 k (by omega)]; exact f3 k hk
          have f5 : FS11 mc (mset M4 15 s (nI w)) := f4.set _ _ (by omega)
          have f6 : FS11 mc (mset (mset M4 15 s (nI w)) 11 5 (nI (s + 1))) := f5.set _ _ (by omega)
          have okw : ∀ j, j < 3 + w → okS j (b (i + j)) = true := fun j hj => by
            by_cases z : j < 2
            · exact ok2 j z
            · by_cases z2 : j = 2
              · subst z2; exact c2.2
              · have := w4 (j - 3) (by omega)
                rw [show i + 3 + (j - 3) = i + j by omega] at this
                rw [okS3 (by omega) (by omega)]; exact this
          by_cases wz : w = 0
          · right
            subst wz
            rw [if_pos (show nI 0 = 0 from rfl)] at head
            exact stop 3 _ (by decide) f5 (fun j hj => okw j (by omega)) (by omega) (by have := w5 (by decide); rw [Nat.add_zero] at this; exact this) head
          · rw [if_neg (nI_ne0 (by omega) (by omega)), nI_add, show (mset (mset M4 15 s (nI w)) 11 5 (nI (s + 1))) 4 1 = nI n from by rw [f6 4 (by omega)]; exact C.1] at head
            have hrun := run (3 + w) okw
            have hszr : szr sz s (3 + w) = setF sz s w := by unfold szr; rw [if_neg (by omega), show 3 + w - 3 = w by omega]
            rw [hszr] at hrun
            have e12 : sgS b n 0 i = nI (vS 0 (b i)) := by unfold sgS; rw [if_pos c0]
            have e13 : sgS b n 1 (i + 1) = nI (vS 1 (b (i + 1))) := by unfold sgS; rw [if_pos c1]
            have e14 : sgS b n 2 (i + 2) = nI (vS 2 (b (i + 2))) := by unfold sgS; rw [if_pos c2]
            have arr : ∀ p, p < s + 1 → AR (mset (mset M4 15 s (nI w)) 11 5 (nI (s + 1))) b p (po p) (setF sz s w p) := by
              intro p hp
              by_cases e : p = s
              · subst e
                rw [setF_s]
                have pe : po p = i := by omega
                rw [pe]
                refine ⟨?_, ?_, ?_, ?_, fun j hj => ?_⟩
                · rw [mset_n (by decide), mset_n (by decide), w6 12 (by omega), mset_n (by decide), mset_n (by decide), mset_s, e12]
                · rw [mset_n (by decide), mset_n (by decide), w6 13 (by omega), mset_n (by decide), mset_s, e13]
                · rw [mset_n (by decide), mset_n (by decide), w6 14 (by omega), mset_s, e14]
                · rw [mset_n (by decide), mset_s]
                · rw [mset_n (by decide), mset_n (by decide)]; exact w7 j hj
              · rw [setF_n e]
                obtain ⟨d1, d2, d3, d4, d5⟩ := d p (by omega)
                have hz := (p7 p (by omega)).2.2.1
                refine ⟨?_, ?_, ?_, ?_, fun j hj => ?_⟩
                · rw [mset_n (by decide), mset_n (by decide), w6 12 (by omega), mset_n (by decide), mset_n (by decide), mset_o e]; exact d1
                · rw [mset_n (by decide), mset_n (by decide), w6 13 (by omega), mset_n (by decide), mset_o e, mset_n (by decide)]; exact d2
                · rw [mset_n (by decide), mset_n (by decide), w6 14 (by omega), mset_o e, mset_n (by decide), mset_n (by decide)]; exact d3
                · rw [mset_n (by decide), mset_o e, w6 15 (by omega), mset_n (by decide), mset_n (by decide), mset_n (by decide)]; exact d4
                · rw [mset_n (by decide), mset_n (by decide), w8 _ (by omega), mset_n (by decide), mset_n (by decide), mset_n (by decide)]; exact d5 j hj
            by_cases ce : i + 3 + w = n
            · right
              rw [if_pos (by rw [ce])] at head
              have hn' : pS b n = (none, s, 3 + w, po, setF sz s w) := by rw [← ce, Nat.add_assoc]; exact hrun
              have hfs := fS_ok hn' (Or.inr (by omega))
              have hns : nS b n = s + 1 := by unfold nS; rw [hfs, hn']; dsimp only; rw [if_pos h0]
              refine ⟨_, by rw [hfs]; exact head, f6, fun _ => ?_⟩
              rw [hns, hn']
              exact ⟨mset_s _ _ _ _, arr⟩
            · have hnot : ¬ okS (3 + w) (b (i + (3 + w))) = true := by
                intro z
                by_cases w44 : w = 4
                · subst w44
                  rw [okS7 (by decide)] at z; cases z
                · rw [okS3 (by omega) (by omega), ← Nat.add_assoc] at z
                  exact w5 (by omega) ⟨by omega, z⟩
              rw [if_neg (fun z => ce ((nI_eq (by omega) (by omega)).mp z)), sg_S9 (C.ag (by rw [f6 4 (by omega)]) (f6 (4 + 1) (by omega))) hn (by omega), Option.bind_some] at head
              by_cases c9 : b (i + 3 + w) = 59
              · left
                rw [if_pos (show i + 3 + w < n ∧ b (i + 3 + w) = 59 from ⟨by omega, c9⟩), if_neg (show ¬ (0 : Int32) = -1 by decide), nI_1] at head
                refine ⟨(nI (i + 3 + w + 1), nI (s + 1), mset (mset M4 15 s (nI w)) 11 5 (nI (s + 1))), head, i + 3 + w + 1, setF po (s + 1) (i + 3 + w + 1), setF sz s w, rfl, rfl, f6, (by dsimp only; rw [mset_s]), by omega, ?_, fun p hp => ?_⟩
                · rw [pS_s, Nat.add_assoc i 3 w, hrun, stp_next (fun z => hnot z.2) ⟨by omega, by rw [← Nat.add_assoc]; exact c9⟩]
                · rw [setF_n (show ¬ p = s + 1 by omega)]
                  exact arr p hp
              · right
                rw [if_neg (show ¬ (i + 3 + w < n ∧ b (i + 3 + w) = 59) from fun z => c9 z.2), if_pos rfl] at head
                have hfs : fS b n = some (i + (3 + w)) := fS_hit hrun (fun z => hnot z.2) (fun z => c9 (by rw [Nat.add_assoc]; exact z.2)) (by omega)
                exact ⟨_, by rw [hfs, ← Nat.add_assoc]; exact head, f6, fun y => by rw [hfs] at y; cases y⟩
        · right
          rw [if_pos c2, Option.bind_some] at head
          dsimp only at head
          rw [if_neg (nI_ne1 (by omega))] at head
          exact stop 2 _ (by decide) f3 ok2 (by omega) c2 head
      · right
        rw [if_pos c1, Option.bind_some] at head
        dsimp only at head
        rw [if_neg (nI_ne1 (by omega))] at head
        have ok1 : ∀ j, j < 1 → okS j (b (i + j)) = true := by
          intro j hj
          have e : j = 0 := by omega
          subst e
          exact c0.2
        exact stop 1 _ (by decide) f2 ok1 (by omega) c1 head
    · right
      rw [if_pos c0, Option.bind_some] at head
      dsimp only at head
      rw [if_neg (nI_ne1 (by omega))] at head
      exact stop 0 _ (by decide) f1 (fun j hj => by omega) (by omega) c0 head
  · rintro m ⟨x, y, M⟩ ⟨i, po, sz, e1, e2, f, g, hle, hX, d⟩
    dsimp only at e1 e2 f g d
    subst e1 e2
    have hfs : fS b n = some i := by
      by_cases z : i < n
      · exact fS_hit hX (fun y => absurd y.1 (by decide)) (fun y => absurd y.1 (by decide)) z
      · have : n = i := by omega
        have h := fS_end (n := n) (by rw [this]; exact hX) h0 (by decide)
        rw [h]; congr 1
    exact ⟨M, by rw [hfs]; rfl, f, fun z => by rw [hfs] at z; cases z⟩
