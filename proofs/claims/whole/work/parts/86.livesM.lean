/-! the reference: the lives -/
theorem lifS_early {W : KW} {H : KH} {S : KS} : ∀ {h : Nat}, h ≤ S.1 → lifS W H S h = (none, 0, 0, 0, S.2.2.2) := by
  intro h
  induction h with
  | zero => intro _; rfl
  | succ h ih =>
    intro hh
    show (stepS W H S h (lifS W H S h)).1 = _
    rw [ih (by omega), stepS_none (by omega) rfl]
theorem lifS_O {W : KW} {H : KH} {S : KS} (l : 1 ≤ S.2.2.2 ∧ S.2.2.2 < 64) : ∀ h, XO W.1 h (lifS W H S h) := by
  intro h
  induction h with
  | zero => exact ⟨fun k hk => (by cases hk), Nat.le_refl _, Nat.le_refl _, Nat.le_refl _, l.2⟩
  | succ h ih =>
    refine stepS_O ih (fun e => ?_)
    rw [lifS_early (by omega)]
    exact l.1
/-- the hours before h of saying p stand written -/
def FL (mm : Mem) (W : KW) (H : KH) (S : KS) (p h : Nat) : Prop := ∀ j, j < h → mm 16 (8 * j + p) = en (lifS W H S (j + 1)).1 ∧ mm 17 (8 * j + p) = nI (lifS W H S (j + 1)).2.2.2.1 ∧ mm 18 (8 * j + p) = nI (lifS W H S (j + 1)).2.2.2.2 ∧ mm 19 (8 * j + p) = b2i (hrdS W H S j)
def FrL (p : Nat) (mm mm' : Mem) : Prop := (∀ k, k < 10 ∨ 20 ≤ k → mm' k = mm k) ∧ (∀ k i, k < 16 → i ≠ p → mm' k i = mm k i) ∧ ∀ k i, 16 ≤ k → i % 8 ≠ p → mm' k i = mm k i
theorem FrL.refl (p : Nat) (mm : Mem) : FrL p mm mm := ⟨fun _ _ => rfl, fun _ _ _ _ => rfl, fun _ _ _ _ => rfl⟩
theorem FrL.trans {p : Nat} {a b c : Mem} (h : FrL p a b) (g : FrL p b c) : FrL p a c := ⟨fun k hk => (g.1 k hk).trans (h.1 k hk), fun k i hk hi => (g.2.1 k i hk hi).trans (h.2.1 k i hk hi), fun k i hk hi => (g.2.2 k i hk hi).trans (h.2.2 k i hk hi)⟩
theorem FrL.of {p : Nat} {a b : Mem} (h : Fr p a b) : FrL p a b := ⟨fun k hk => h.1 k (by omega), fun k i _ hi => h.2 k i hi, fun k i hk _ => by rw [h.1 k (Or.inr hk)]⟩
theorem FrL.set {p : Nat} {a b : Mem} (h : FrL p a b) {k : Nat} (i : Nat) (v : Int32) (h1 : 16 ≤ k) (h2 : k < 20) (h3 : i % 8 = p) : FrL p a (mset b k i v) :=
  ⟨fun j hj => (mset_n (by omega)).trans (h.1 j hj), fun j l hj hl => by rw [mset_n (by omega)]; exact h.2.1 j l hj hl, fun j l hj hl => by
    by_cases e : j = k
    · subst e; rw [mset_o (by rintro rfl; exact hl h3)]; exact h.2.2 _ l hj hl
    · rw [mset_n e]; exact h.2.2 j l hj hl⟩
theorem SX.congr {mm mm' : Mem} {p : Nat} {X : ST} (h : SX mm p X) (g : ∀ k, 10 ≤ k → k < 16 → mm' k p = mm k p) : SX mm' p X := by
  unfold SX
  rw [g 10 (by decide) (by decide), g 11 (by decide) (by decide), g 12 (by decide) (by decide), g 13 (by decide) (by decide), g 14 (by decide) (by decide), g 15 (by decide) (by decide)]
  exact h
theorem FL.congr {mm mm' : Mem} {W : KW} {H : KH} {S : KS} {p h : Nat} (f : FL mm W H S p h) (g : ∀ k j, 16 ≤ k → k < 20 → j < h → mm' k (8 * j + p) = mm k (8 * j + p)) : FL mm' W H S p h := by
  intro j hj
  rw [g 16 j (by decide) (by decide) hj, g 17 j (by decide) (by decide) hj, g 18 j (by decide) (by decide) hj, g 19 j (by decide) (by decide) hj]
  exact f j hj
theorem lives_loop {W : KW} {H : KH} {p : Nat} {S : KS} (hp : p < 8) : ∀ (m n h : Nat) (mm : Mem), h + m = 40 → m < n → MW mm W.1 W.2.1 W.2.2 → MH mm H → SP mm p S → SX mm p (lifS W H S h) → FL mm W H S p h → ∃ mm', F10_livesOne_h47 (nI p) n (nI h) mm = some mm' ∧ FrL p mm mm' ∧ SX mm' p (lifS W H S 40) ∧ FL mm' W H S p 40 := by
  intro m
  induction m with
  | zero =>
    intro n h mm hm hn M G P Y F
    obtain ⟨n', rfl⟩ : ∃ n', n = n' + 1 := ⟨n - 1, by omega⟩
    have : h = 40 := by omega
    subst this
    exact ⟨mm, rfl, FrL.refl p mm, Y, F⟩
  | succ m ih =>
    intro n h mm hm hn M G P Y F
    obtain ⟨n', rfl⟩ : ∃ n', n = n' + 1 := ⟨n - 1, by omega⟩
    obtain ⟨mm1, r1, r2, r3⟩ := f10_passes M G hp (show h < 40 by omega) P Y (lifS_O ⟨P.2.2.2.2.1, P.2.2.2.2.2⟩ h)
    have e0 : (8 : Int32) * nI h + nI p = nI (8 * h + p) := by rw [show (8 : Int32) = nI 8 from rfl, pk_mul]; exact nI_add _ _
    obtain ⟨y1, y2, y3, y4, y5, y6⟩ := id r3
    have key : F10_livesOne_h47 (nI p) (n' + 1) (nI h) mm = F10_livesOne_h47 (nI p) n' (nI (h + 1)) (mset (mset (mset (mset mm1 19 (8 * h + p) (b2i (hrdS W H S h))) 16 (8 * h + p) (en (lifS W H S (h + 1)).1)) 17 (8 * h + p) (nI (lifS W H S (h + 1)).2.2.2.1)) 18 (8 * h + p) (nI (lifS W H S (h + 1)).2.2.2.2)) := by
      show F10_livesOne_p47 _ _ _ _ = _
      unfold F10_livesOne_p47
      rw [if_neg (show ¬ (40 : Int32) ≤ nI h from nI_ge (b := 40) (by omega) (by decide)), r1]
      have hv : ∀ v, F10_livesOne_b77 (F10_livesOne_h47 (nI p) n') (nI p) (nI h) (nI (8 * h + p)) v mm1 = F10_livesOne_h47 (nI p) n' (nI (h + 1)) (mset (mset (mset (mset mm1 19 (8 * h + p) v) 16 (8 * h + p) (en (lifS W H S (h + 1)).1)) 17 (8 * h + p) (nI (lifS W H S (h + 1)).2.2.2.1)) 18 (8 * h + p) (nI (lifS W H S (h + 1)).2.2.2.2)) := by
        intro v
        unfold F10_livesOne_b77
        simp only [e0, nI_1, lt, ckI hp (by decide), nI_clamp (show p < 2 ^ 31 by omega), ckI (show 8 * h + p < 320 by omega) (by decide), nI_clamp (show 8 * h + p < 2 ^ 31 by omega)]
        rw [mset_n (show 10 ≠ 19 by decide), y1, mset_n (show 13 ≠ 16 by decide), mset_n (show 13 ≠ 19 by decide), y4, mset_n (show 14 ≠ 17 by decide), mset_n (show 14 ≠ 16 by decide), mset_n (show 14 ≠ 19 by decide), y5]
        rfl
      simp only [Option.bind_some, e0, hv]
      show _ = F10_livesOne_h47 (nI p) n' (nI (h + 1)) (mset (mset (mset (mset mm1 19 (8 * h + p) (b2i (stepS W H S h (lifS W H S h)).2)) _ _ _) _ _ _) _ _ _)
      cases (stepS W H S h (lifS W H S h)).2 <;> rfl
    have fr : FrL p mm (mset (mset (mset (mset mm1 19 (8 * h + p) (b2i (hrdS W H S h))) 16 (8 * h + p) (en (lifS W H S (h + 1)).1)) 17 (8 * h + p) (nI (lifS W H S (h + 1)).2.2.2.1)) 18 (8 * h + p) (nI (lifS W H S (h + 1)).2.2.2.2)) := ((((FrL.of r2).set _ _ (by decide) (by decide) (by omega)).set _ _ (by decide) (by decide) (by omega)).set _ _ (by decide) (by decide) (by omega)).set _ _ (by decide) (by decide) (by omega)
    have f0 := fr.1 0 (by decide)
    have f7 := fr.1 7 (by decide)
    have f8 := fr.1 8 (by decide)
    have f9 := fr.1 9 (by decide)
    obtain ⟨mm', q1, q2, q3, q4⟩ := ih n' (h + 1) _ (by omega) (by omega) (M.congr (congrFun f0 7) f7) (G.congr (congrFun f0 11) (congrFun f0 13) (congrFun f0 14) (congrFun f0 15) f9) (P.congr f8) (r3.congr (fun k h1 h2 => by rw [mset_n (by omega), mset_n (by omega), mset_n (by omega), mset_n (by omega)])) (by
      intro j hj
      by_cases e : j = h
      · subst e
        refine ⟨?_, ?_, ?_, ?_⟩
        · rw [mset_n (by decide), mset_n (by decide), mset_s]
        · rw [mset_n (by decide), mset_s]
        · rw [mset_s]
        · rw [mset_n (by decide), mset_n (by decide), mset_n (by decide), mset_s]
      · have ne : 8 * j + p ≠ 8 * h + p := by omega
        obtain ⟨g1, g2, g3, g4⟩ := F j (by omega)
        have z : ∀ k, 16 ≤ k → mm1 k = mm k := fun k hk => r2.1 k (Or.inr hk)
        refine ⟨?_, ?_, ?_, ?_⟩
        · rw [mset_n (by decide), mset_n (by decide), mset_o ne, mset_n (by decide), z 16 (by decide)]; exact g1
        · rw [mset_n (by decide), mset_o ne, mset_n (by decide), mset_n (by decide), z 17 (by decide)]; exact g2
        · rw [mset_o ne, mset_n (by decide), mset_n (by decide), mset_n (by decide), z 18 (by decide)]; exact g3
        · rw [mset_n (by decide), mset_n (by decide), mset_n (by decide), mset_o ne, z 19 (by decide)]; exact g4)
    exact ⟨mm', key.trans q1, fr.trans q2, q3, q4⟩
theorem f10_livesOne {mm : Mem} {W : KW} {H : KH} {p : Nat} {S : KS} (hp : p < 8) (M : MW mm W.1 W.2.1 W.2.2) (G : MH mm H) (P : SP mm p S) : ∃ mm', F10_livesOne (nI p) mm = some mm' ∧ FrL p mm mm' ∧ SX mm' p (lifS W H S 40) ∧ FL mm' W H S p 40 := by
  obtain ⟨⟨s1, s2, s3, s4⟩, l1, l2, l3, l4, l5⟩ := id P
  have e0 : (8 : Int32) * nI p + 3 = nI (8 * p + 3) := by rw [show (8 : Int32) = nI 8 from rfl, pk_mul]; exact nI_add _ 3
  have fr : Fr p mm (mset (mset (mset (mset (mset mm 10 p (-1)) 12 p 0) 13 p 0) 14 p (nI S.2.2.2)) 15 p 0) := ((((Fr.refl p mm).set _ (by decide) (by decide)).set _ (by decide) (by decide)).set _ (by decide) (by decide)).set _ (by decide) (by decide) |>.set _ (by decide) (by decide)
  unfold F10_livesOne
  simp only [e0, lt, ckI hp (by decide), nI_clamp (show p < 2 ^ 31 by omega), ckI (show 8 * p + 3 < 64 by omega) (by decide), nI_clamp (show 8 * p + 3 < 2 ^ 31 by omega)]
  rw [mset_n (show 8 ≠ 13 by decide), mset_n (show 8 ≠ 12 by decide), mset_n (show 8 ≠ 10 by decide), s4]
  obtain ⟨mm', q1, q2, q3, q4⟩ := lives_loop (W := W) (H := H) (S := S) hp 40 FU 0 (mset (mset (mset (mset (mset mm 10 p (-1)) 12 p 0) 13 p 0) 14 p (nI S.2.2.2)) 15 p 0) (by decide) (FU_lt (by decide)) (M.congr rfl rfl) (G.congr rfl rfl rfl rfl rfl) (P.congr rfl) (by
    refine ⟨?_, fun k hk => (by cases hk), ?_, ?_, ?_, ?_⟩
    · rw [mset_n (by decide), mset_n (by decide), mset_n (by decide), mset_n (by decide), mset_s]; rfl
    · rw [mset_n (by decide), mset_n (by decide), mset_n (by decide), mset_s]; rfl
    · rw [mset_n (by decide), mset_n (by decide), mset_s]; rfl
    · rw [mset_n (by decide), mset_s]; rfl
    · rw [mset_s, show lifS W H S 0 = (none, 0, 0, 0, S.2.2.2) from rfl, show (S.2.2.2 == 0) = false from by simp; omega]; rfl) (fun j hj => by omega)
  exact ⟨mm', q1, (FrL.of fr).trans q2, q3, q4⟩
/-- the sayings as they were read -/
def MS (mm : Mem) (ns : Nat) (SS : Nat → KS) : Prop := ns ≤ 8 ∧ mm 0 9 = nI ns ∧ ∀ p, p < ns → SP mm p (SS p)
/-- the lives stand written -/
def ML (mm : Mem) (W : KW) (H : KH) (ns : Nat) (SS : Nat → KS) : Prop := ∀ p, p < ns → SX mm p (lifS W H (SS p) 40) ∧ FL mm W H (SS p) p 40
/-- nothing but the lives has changed -/
def FrA (mm mm' : Mem) : Prop := ∀ k, k < 10 ∨ 20 ≤ k → mm' k = mm k
theorem livesA_loop {W : KW} {H : KH} {ns : Nat} {SS : Nat → KS} : ∀ (m n p : Nat) (mm : Mem), p + m = ns → m < n → MW mm W.1 W.2.1 W.2.2 → MH mm H → MS mm ns SS → ML mm W H p SS → ∃ mm', F10_lives_h2 n (nI p) mm = some mm' ∧ FrA mm mm' ∧ ML mm' W H ns SS := by
  intro m
  induction m with
  | zero =>
    intro n p mm hm hn M G P L
    obtain ⟨n', rfl⟩ : ∃ n', n = n' + 1 := ⟨n - 1, by omega⟩
    have : p = ns := by omega
    subst this
    refine ⟨mm, ?_, fun _ _ => rfl, L⟩
    show F10_lives_p2 _ _ _ = _
    unfold F10_lives_p2
    rw [P.2.1, if_pos (nI_le (Nat.le_refl _) (by have := P.1; omega))]
  | succ m ih =>
    intro n p mm hm hn M G P L
    obtain ⟨n', rfl⟩ : ∃ n', n = n' + 1 := ⟨n - 1, by omega⟩
    have h8 := P.1
    obtain ⟨mm1, r1, r2, r3, r4⟩ := f10_livesOne (show p < 8 by omega) M G (P.2.2 p (by omega))
    have f0 := r2.1 0 (by decide)
    have f7 := r2.1 7 (by decide)
    have f8 := r2.1 8 (by decide)
    have f9 := r2.1 9 (by decide)
    obtain ⟨mm', q1, q2, q3⟩ := ih n' (p + 1) mm1 (by omega) (by omega) (M.congr (congrFun f0 7) f7) (G.congr (congrFun f0 11) (congrFun f0 13) (congrFun f0 14) (congrFun f0 15) f9) ⟨P.1, (congrFun f0 9).trans P.2.1, fun i hi => (P.2.2 i hi).congr f8⟩ (by
      intro i hi
      by_cases e : i = p
      · subst e; exact ⟨r3, r4⟩
      · obtain ⟨g1, g2⟩ := L i (by omega)
        exact ⟨g1.congr (fun k _ h2 => r2.2.1 k i h2 e), g2.congr (fun k j h1 _ _ => r2.2.2 k _ h1 (by omega))⟩)
    refine ⟨mm', ?_, fun k hk => (q2 k hk).trans (r2.1 k hk), q3⟩
    show F10_lives_p2 _ _ _ = _
    unfold F10_lives_p2
    rw [P.2.1, if_neg (nI_ge (show p < ns by omega) (by omega)), r1]
    show F10_lives_h2 n' (nI p + 1) mm1 = _
    rw [nI_1]
    exact q1
theorem f10_lives {mm : Mem} {W : KW} {H : KH} {ns : Nat} {SS : Nat → KS} (M : MW mm W.1 W.2.1 W.2.2) (G : MH mm H) (P : MS mm ns SS) : ∃ mm', F10_lives mm = some mm' ∧ FrA mm mm' ∧ ML mm' W H ns SS := livesA_loop ns FU 0 mm (by omega) (FU_lt (by have := P.1; omega)) M G P (fun p hp => by omega)
