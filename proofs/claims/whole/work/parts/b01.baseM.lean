/-! the reference: what it has told; its lives -/
def MSL (mm : Mem) (ns : Nat) (SS : Nat → KS) (LT : Nat → Nat → Nat) : Prop := MS mm ns SS ∧ (∀ p, p < ns → KO (SS p)) ∧ ∀ p, p < ns → ∀ j, j < (SS p).2.2.2 → mm 8 (8 * p + 4 + j) = nI (LT p j)
def MD (mm : Mem) (nd : Nat) (DR : EV) : Prop := nd ≤ 8 ∧ mm 0 26 = nI nd ∧ ∀ i, i < nd → (mm 20 (3 * i) = nI (DR.1 i) ∧ mm 20 (3 * i + 1) = nI (DR.2.1 i) ∧ mm 20 (3 * i + 2) = nI (DR.2.2 i)) ∧ DR.1 i < 40 ∧ DR.2.1 i < 8 ∧ DR.2.2 i < 5
def RB (mm : Mem) (K : KX) : Prop := MW mm K.1.1 K.1.2.1 K.1.2.2 ∧ ME mm K.2.1.1 K.2.1.2 (fun _ => true) ∧ (mm 0 13 = 0 ∧ mm 0 14 = -1) ∧ MSL mm K.2.2.1.1 K.2.2.1.2.1 K.2.2.1.2.2 ∧ MD mm K.2.2.2.1 K.2.2.2.2
/-- what a question may change in the reference -/
def FrB (mm mm' : Mem) : Prop := (∀ k, (1 ≤ k ∧ k < 10) ∨ k = 20 → mm' k = mm k) ∧ ∀ i, i ≠ 15 → i ≠ 29 → mm' 0 i = mm 0 i
theorem FrB.refl (mm : Mem) : FrB mm mm := ⟨fun _ _ => rfl, fun _ _ _ => rfl⟩
theorem FrB.trans {a b c : Mem} (h : FrB a b) (g : FrB b c) : FrB a c := ⟨fun k hk => (g.1 k hk).trans (h.1 k hk), fun i h1 h2 => (g.2 i h1 h2).trans (h.2 i h1 h2)⟩
theorem FrB.of {a b : Mem} (h : FrA a b) : FrB a b := ⟨fun k hk => h k (by omega), fun i _ _ => by rw [h 0 (by omega)]⟩
theorem FrA.refl (mm : Mem) : FrA mm mm := fun _ _ => rfl
theorem FrA.trans {a b c : Mem} (h : FrA a b) (g : FrA b c) : FrA a c := fun k hk => (g k hk).trans (h k hk)
theorem FrA.ofL {p : Nat} {a b : Mem} (h : FrL p a b) : FrA a b := fun k hk => h.1 k hk
theorem RB.fr {mm mm' : Mem} {K : KX} (R : RB mm K) (f : FrB mm mm') : RB mm' K := by
  unfold RB MW ME MSL MS SP MD at *
  rw [f.2 7 (by decide) (by decide), f.2 9 (by decide) (by decide), f.2 11 (by decide) (by decide), f.2 13 (by decide) (by decide), f.2 14 (by decide) (by decide), f.2 26 (by decide) (by decide), f.1 7 (by omega), f.1 8 (by omega), f.1 9 (by omega), f.1 20 (by omega)]
  exact R
theorem mh_of {mm : Mem} {E : EV} {ne : Nat} {on : Nat → Bool} (M : ME mm E ne on) (h : mm 0 14 = -1) : MH mm (HK E ne on) :=
  ⟨E, ne, on, fun _ _ => false, M, fun x k hx _ => ⟨fun z => (by cases z), fun z => absurd (h.symm.trans z.1).symm (nI_ne1 (by omega))⟩, rfl⟩
theorem mh_coinM {mm : Mem} {E : EV} {ne : Nat} {on : Nat → Bool} {h0 w0 : Nat} (M : ME mm E ne on) (h : mm 0 14 = nI h0) (hw : mm 0 15 = nI w0) (l1 : h0 < 40) (l2 : w0 < 8) : MH mm (coinH (HK E ne on) h0 w0) := by
  refine ⟨E, ne, on, fun x k => x == h0 && k == w0, M, fun x k hx hk => ?_, ?_⟩
  · rw [h, hw, nI_eq (show h0 < 2 ^ 31 by omega) (show x < 2 ^ 31 by omega), nI_eq (show w0 < 2 ^ 31 by omega) (show k < 2 ^ 31 by omega), Bool.and_eq_true, beq_iff_eq, beq_iff_eq]
    exact ⟨fun z => ⟨z.1.symm, z.2.symm⟩, fun z => ⟨z.1.symm, z.2.symm⟩⟩
  · unfold coinH HK
    have : (fun x k => coinS E ne on x k || (x == h0 && k == w0)) = fun x k => (x == h0 && k == w0) || coinS E ne on x k := by
      funext x k; exact Bool.or_comm _ _
    dsimp only
    rw [this]
theorem me_not {mm : Mem} {E : EV} {ne : Nat} {on on' : Nat → Bool} {N : Nat} (M : ME mm E ne on) (hN : N < 2 ^ 31) (h : ∀ i, i < ne → on' i = !(N.testBit i)) : ME (mset mm 0 13 (nI N)) E ne on' := by
  obtain ⟨a, b, -, d⟩ := M
  refine ⟨a, ?_, ⟨N, hN, mset_s _ _ _ _, h⟩, ?_⟩
  · rw [mset_o (by decide)]; exact b
  · rw [mset_n (by decide)]; exact d
/-- wells, hours and sayings as they stand for the lives -/
def RV (mm : Mem) (W : KW) (H : KH) (ns : Nat) (SS : Nat → KS) : Prop := MW mm W.1 W.2.1 W.2.2 ∧ MH mm H ∧ MS mm ns SS ∧ ∀ p, p < ns → KO (SS p)
theorem RV.fr {mm mm' : Mem} {W : KW} {H : KH} {ns : Nat} {SS : Nat → KS} (R : RV mm W H ns SS) (f : FrA mm mm') : RV mm' W H ns SS := by
  obtain ⟨a, b, c, d⟩ := R
  have f0 := f 0 (by omega)
  have f7 := f 7 (by omega)
  have f8 := f 8 (by omega)
  have f9 := f 9 (by omega)
  exact ⟨a.congr (congrFun f0 7) f7, b.congr (congrFun f0 11) (congrFun f0 13) (congrFun f0 14) (congrFun f0 15) f9, ⟨c.1, (congrFun f0 9).trans c.2.1, fun p hp => (c.2.2 p hp).congr f8⟩, d⟩
theorem RV.lives {mm : Mem} {W : KW} {H : KH} {ns : Nat} {SS : Nat → KS} (R : RV mm W H ns SS) : ∃ mm', F10_lives mm = some mm' ∧ FrA mm mm' ∧ RV mm' W H ns SS ∧ RLv mm' W H ns SS := by
  obtain ⟨mm', r1, r2, r3⟩ := f10_lives R.1 R.2.1 R.2.2.1
  have R' := R.fr r2
  exact ⟨mm', r1, r2, R', R'.1.1, R'.2.2.1.1, R'.2.2.1.2.1, R'.2.2.2, r3⟩
theorem RB.rv {mm : Mem} {K : KX} (R : RB mm K) : RV mm K.1 (H0 K) K.2.2.1.1 K.2.2.1.2.1 := ⟨R.1, mh_of R.2.1 R.2.2.1.2, R.2.2.2.1.1, R.2.2.2.1.2.1⟩
theorem RB.w8 {mm : Mem} {K : KX} (R : RB mm K) : K.1.1 ≤ 8 := R.1.1
theorem RB.n8 {mm : Mem} {K : KX} (R : RB mm K) : K.2.2.1.1 ≤ 8 := R.2.2.2.1.1.1
theorem RB.e8 {mm : Mem} {K : KX} (R : RB mm K) : K.2.1.2 ≤ 8 := R.2.1.1
theorem f10_isSayingX {mm : Mem} {K : KX} (R : RB mm K) (x : Int32) : F10_isSaying x mm = some (if 0 ≤ x ∧ x < nI K.2.2.1.1 then 1 else 0) := by
  have n8 := R.n8
  unfold F10_isSaying
  rw [f10_in, show mm 0 9 = nI K.2.2.1.1 from R.2.2.2.1.1.2.1]
  have e : ((0 : Int64) ≤ x.toInt64 ∧ x.toInt64 ≤ (nI K.2.2.1.1 - 1).toInt64) ↔ (0 ≤ x ∧ x < nI K.2.2.1.1) := by
    rw [Int64.le_iff_toInt_le, Int64.le_iff_toInt_le, Int32.le_iff_toInt_le, Int32.lt_iff_toInt_lt, Int32.toInt_toInt64, Int32.toInt_toInt64, nI_toInt (show K.2.2.1.1 < 2 ^ 31 by omega), show (nI K.2.2.1.1 - 1).toInt = (K.2.2.1.1 : Int) - 1 from pk_sub_toInt (b := 1) (by omega) (by decide)]
    have : (0 : Int64).toInt = 0 := by decide
    have : (0 : Int32).toInt = 0 := by decide
    omega
  simp only [e]
  exact bz_in bz01
theorem r_atOf {mm : Mem} {W : KW} {H : KH} {ns : Nat} {SS : Nat → KS} {LT : Nat → Nat → Nat} (R : RLv mm W H ns SS) (L8 : ∀ p, p < ns → ∀ j, j < (SS p).2.2.2 → mm 8 (8 * p + 4 + j) = nI (LT p j)) {h p : Nat} (hh : h < 40) (hp : p < ns) (v : Int32) : F10_atOf (nI h) (nI p) v mm = some (aAtOf W H SS LT h p v) := by
  obtain ⟨h8, n8, hn, l, L⟩ := R
  obtain ⟨x1, x2, x3⟩ := ix8 hh (show p < 8 by omega)
  obtain ⟨f1, f2, f3, f4⟩ := (L p hp).2 h hh
  have ko := l p hp
  have fl := lif_FL (W := W) (H := H) ko.l64 (h + 1)
  have l5 := ko.2.2.2.2
  unfold F10_atOf aAtOf
  rw [x1, x2]
  simp only [ckI x3 (show 320 < 2 ^ 31 by decide)]
  rw [f1, f2, f3, f4]
  by_cases d0 : v = 0
  · rw [if_pos d0, if_pos d0]
  rw [if_neg d0, if_neg d0]
  by_cases d1 : v = 1
  · rw [if_pos d1, if_pos d1]
  rw [if_neg d1, if_neg d1]
  have ez := ze0 (i := (lifS W H (SS p) (h + 1)).2.2.2.2) (by omega)
  by_cases d2 : v = 2
  · rw [if_pos d2, if_pos d2]
    simp only [ez]
    by_cases z : (lifS W H (SS p) (h + 1)).2.2.2.2 = 0
    · rw [if_pos z, if_pos z]
    · rw [if_neg z, if_neg z, zm8, za4, nI_add, ckI (show 8 * p + 4 + (lifS W H (SS p) (h + 1)).2.2.2.1 < 64 by omega) (by decide), nI_clamp (by omega), L8 p hp _ (by omega)]
  rw [if_neg d2, if_neg d2]
  by_cases d3 : v = 3
  · rw [if_pos d3, if_pos d3]
    simp only [ez]
    by_cases z : (lifS W H (SS p) (h + 1)).2.2.2.2 = 0
    · rw [if_pos z, if_pos z]
    · rw [if_neg z, if_neg z, zm8, za4, nI_add, nI_add, zs1 (by omega), ckI (show 8 * p + 4 + (lifS W H (SS p) (h + 1)).2.2.2.1 + (lifS W H (SS p) (h + 1)).2.2.2.2 - 1 < 64 by omega) (by decide), nI_clamp (by omega), show 8 * p + 4 + (lifS W H (SS p) (h + 1)).2.2.2.1 + (lifS W H (SS p) (h + 1)).2.2.2.2 - 1 = 8 * p + 4 + ((lifS W H (SS p) (h + 1)).2.2.2.1 + (lifS W H (SS p) (h + 1)).2.2.2.2 - 1) by omega, L8 p hp _ (by omega)]
  rw [if_neg d3, if_neg d3]
theorem r_wellBy {mm : Mem} {W : KW} (M : MW mm W.1 W.2.1 W.2.2) {k : Nat} (hk : k < W.1) {j : Nat} (hj : j < 4) : F10_wellBy (nI k) (nI j) mm = some (aWellOf W k (nI j)) := by
  have h8 := M.1
  obtain ⟨w1, w2, -, -⟩ := M.2.2 k hk
  unfold F10_wellBy aWellOf
  rcases (show j = 0 ∨ j = 1 ∨ j = 2 ∨ j = 3 by omega) with rfl | rfl | rfl | rfl
  · rw [if_neg (show ¬ (2 : Int32) ≤ nI 0 by decide), if_pos (show nI 0 = 0 from rfl), zm2, nI_add, ckI (show 2 * k + 0 < 16 by omega) (by decide), nI_clamp (by omega)]
    rw [show 2 * k + 0 = 2 * k from rfl, w1]
  · rw [if_neg (show ¬ (2 : Int32) ≤ nI 1 by decide), if_neg (show ¬ nI 1 = 0 by decide), if_pos (show nI 1 = 1 from rfl), zm2, nI_add, ckI (show 2 * k + 1 < 16 by omega) (by decide), nI_clamp (by omega), w2]
  · rw [if_pos (show (2 : Int32) ≤ nI 2 by decide), if_pos (show nI 2 = 2 from rfl), if_neg (show ¬ nI 2 = 0 by decide), if_neg (show ¬ nI 2 = 1 by decide), if_pos (show nI 2 = 2 from rfl), f10_down M hk]
    rfl
  · rw [if_pos (show (2 : Int32) ≤ nI 3 by decide), if_neg (show ¬ nI 3 = 2 by decide), if_neg (show ¬ nI 3 = 0 by decide), if_neg (show ¬ nI 3 = 1 by decide), if_neg (show ¬ nI 3 = 2 by decide), f10_up M hk]
    rfl
theorem r_sayBy {mm : Mem} {ns : Nat} {SS : Nat → KS} {LT : Nat → Nat → Nat} (M : MSL mm ns SS LT) {p : Nat} (hp : p < ns) {j : Nat} (hj : j < 8) : F10_sayingBy (nI p) (nI j) mm = some (aSayOf SS LT p (nI j)) := by
  obtain ⟨m1, m2, m3⟩ := M
  have n8 := m1.1
  obtain ⟨⟨s1, s2, s3, s4⟩, -⟩ := m1.2.2 p hp
  have ko := m2 p hp
  have l5 := ko.2.2.2.2
  unfold F10_sayingBy F10_sayingBy_b22 aSayOf
  rw [zm8, za3, nI_add, nI_clamp (show j < 2 ^ 31 by omega), ckI (show 8 * p + j < 64 by omega) (by decide), ckI (show 8 * p + 3 < 64 by omega) (by decide), nI_clamp (show 8 * p + j < 2 ^ 31 by omega), nI_clamp (show 8 * p + 3 < 2 ^ 31 by omega), s4]
  simp (disch := omega) only [zu4, ze0, ze1, ze2, ze3]
  by_cases c : j < 4
  · rw [if_pos c]
    rcases (show j = 0 ∨ j = 1 ∨ j = 2 ∨ j = 3 by omega) with rfl | rfl | rfl | rfl
    · rw [if_pos rfl]; exact congrArg some s1
    · rw [if_neg (by decide), if_pos rfl, s2]
    · rw [if_neg (by decide), if_neg (by decide), if_pos rfl, s3]
    · rw [if_neg (by decide), if_neg (by decide), if_neg (by decide), if_pos rfl, s4]
  · rw [if_neg c, zs4 (show 4 ≤ j by omega), if_neg (show ¬ j = 0 by omega), if_neg (show ¬ j = 1 by omega), if_neg (show ¬ j = 2 by omega), if_neg (show ¬ j = 3 by omega)]
    simp only [leI (show (SS p).2.2.2 < 2 ^ 31 by omega) (show j - 4 < 2 ^ 31 by omega)]
    by_cases z : j - 4 < (SS p).2.2.2
    · rw [if_neg (by omega), if_pos z, show 8 * p + j = 8 * p + 4 + (j - 4) by omega, m3 p hp _ z]
    · rw [if_pos (by omega), if_neg z]
