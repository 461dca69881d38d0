/-! the class: wells ranked -/
/-- the class's wells -/
def CW (mc : Mem) (v nw : Nat) (st ht : Nat → Nat) : Prop := nw ≤ 8 ∧ mc v 4 = nI nw ∧ ∀ k, k < nw → mc (v + 1) k = nI (st k) ∧ mc (v + 2) k = nI (ht k) ∧ st k < 3 ∧ ht k < 10
def CK (mc : Mem) (v nw : Nat) (ht : Nat → Nat) (a : Nat) : Prop := mc v 5 = en (laS ht a) ∧ ∀ k, k < a → mc (v + 3) k = en (dnS ht k nw) ∧ mc (v + 4) k = en (upS ht k nw)
/-- only the ranks of the wells at v have changed -/
def FrR (v : Nat) (mc mc' : Mem) : Prop := (∀ k, k ≠ v → k ≠ v + 3 → k ≠ v + 4 → mc' k = mc k) ∧ ∀ i, i ≠ 5 → mc' v i = mc v i
theorem FrR.refl (v : Nat) (mc : Mem) : FrR v mc mc := ⟨fun _ _ _ _ => rfl, fun _ _ => rfl⟩
theorem FrR.trans {v : Nat} {a b c : Mem} (h : FrR v a b) (g : FrR v b c) : FrR v a c := ⟨fun k h1 h2 h3 => (g.1 k h1 h2 h3).trans (h.1 k h1 h2 h3), fun i hi => (g.2 i hi).trans (h.2 i hi)⟩
theorem FrR.s3 {v : Nat} {a b : Mem} (h : FrR v a b) (i : Nat) (x : Int32) : FrR v a (mset b (v + 3) i x) := ⟨fun k h1 h2 h3 => (mset_n h2).trans (h.1 k h1 h2 h3), fun j hj => by rw [mset_n (by omega)]; exact h.2 j hj⟩
theorem FrR.s4 {v : Nat} {a b : Mem} (h : FrR v a b) (i : Nat) (x : Int32) : FrR v a (mset b (v + 4) i x) := ⟨fun k h1 h2 h3 => (mset_n h3).trans (h.1 k h1 h2 h3), fun j hj => by rw [mset_n (by omega)]; exact h.2 j hj⟩
theorem FrR.s0 {v : Nat} {a b : Mem} (h : FrR v a b) (x : Int32) : FrR v a (mset b v 5 x) := ⟨fun k h1 h2 h3 => (mset_n h1).trans (h.1 k h1 h2 h3), fun j hj => by rw [mset_o hj]; exact h.2 j hj⟩
theorem CW.fr {mc mc' : Mem} {v nw : Nat} {st ht : Nat → Nat} (h : CW mc v nw st ht) (f : FrR v mc mc') : CW mc' v nw st ht := by
  unfold CW
  rw [f.2 4 (by decide), f.1 (v + 1) (by omega) (by omega) (by omega), f.1 (v + 2) (by omega) (by omega) (by omega)]
  exact h
theorem mm2_c {M : Mem} {c d a : Nat} {x y z : Int32} (h : c ≠ d) : mset (mset (mset M c a x) d a y) c a z = mset (mset M c a z) d a y := by
  funext k i
  by_cases h1 : k = c
  · subst h1
    by_cases h2 : i = a
    · subst h2; rw [mset_s, mset_n h, mset_s]
    · rw [mset_o h2, mset_n h, mset_n h, mset_o h2, mset_o h2]
  · rw [mset_n h1]
    by_cases h3 : k = d
    · subst h3
      by_cases h2 : i = a
      · subst h2; rw [mset_s, mset_s]
      · rw [mset_o h2, mset_o h2, mset_n h1, mset_n h1]
    · rw [mset_n h3, mset_n h3, mset_n h1, mset_n h1]
theorem mm2_d {M : Mem} {d a : Nat} {y z : Int32} : mset (mset M d a y) d a z = mset M d a z := by
  funext k i
  by_cases h3 : k = d
  · subst h3
    by_cases h2 : i = a
    · subst h2; rw [mset_s, mset_s]
    · rw [mset_o h2, mset_o h2, mset_o h2]
  · rw [mset_n h3, mset_n h3, mset_n h3]
def rkM (M : Mem) (v a nw : Nat) (ht : Nat → Nat) (j : Nat) : Mem := mset (mset M (v + 3) a (en (dnS ht a j))) (v + 4) a (en (upS ht a j))
theorem rkM_s {M : Mem} {v a nw : Nat} {ht : Nat → Nat} {j : Nat} : rkM M v a nw ht j (v + 3) a = en (dnS ht a j) ∧ rkM M v a nw ht j (v + 4) a = en (upS ht a j) := by
  unfold rkM
  exact ⟨by rw [mset_n (by omega), mset_s], mset_s _ _ _ _⟩
theorem rank_in {M : Mem} {v nw : Nat} {st ht : Nat → Nat} (C : CW M v nw st ht) {a : Nat} (ha : a < nw) (kx : Int32 → Mem → Option Mem) : F8_rank_h31 kx v FU (nI a) (nI 0) (rkM M v a nw ht 0) = kx (nI a) (rkM M v a nw ht nw) := by
  obtain ⟨h8, hn, hw⟩ := C
  have ea := hw a ha
  refine up_all (fun n m i => F8_rank_h31 kx v n (nI a) i m) (fun j => rkM M v a nw ht j) nw _ (by omega) ?_ ?_
  · intro n
    show F8_rank_p31 _ _ _ _ _ _ = _
    unfold F8_rank_p31
    rw [show rkM M v a nw ht nw v 4 = nI nw from by unfold rkM; rw [mset_n (by omega), mset_n (by omega)]; exact hn, if_pos (nI_le (Nat.le_refl _) (by omega))]
  · intro n j hj
    have ej := hw j hj
    have r2 : ∀ x y, (mset (mset M (v + 3) a x) (v + 4) a y) (v + 2) = M (v + 2) := fun x y => by rw [mset_n (by omega), mset_n (by omega)]
    show F8_rank_p31 _ _ _ _ _ _ = _
    unfold F8_rank_p31
    rw [show rkM M v a nw ht j v 4 = nI nw from by unfold rkM; rw [mset_n (by omega), mset_n (by omega)]; exact hn, if_neg (nI_ge hj (by omega))]
    simp only [ckI (show j < 8 by omega) (by decide), ckI (show a < 8 by omega) (by decide), nI_clamp (show j < 2 ^ 31 by omega), nI_clamp (show a < 2 ^ 31 by omega), rkM_s.1]
    have hup : ∀ x, F8_rank_b91 (F8_rank_h31 kx v n) kx v (nI a) (nI j) (mset (mset M (v + 3) a x) (v + 4) a (en (upS ht a j))) = F8_rank_h31 kx v n (nI a) (nI (j + 1)) (mset (mset M (v + 3) a x) (v + 4) a (en (upS ht a (j + 1)))) := by
      intro x
      unfold F8_rank_b91 F8_rank_b136 F8_rank_b143
      simp only [nI_1, ckI (show j < 8 by omega) (by decide), ckI (show a < 8 by omega) (by decide), nI_clamp (show j < 2 ^ 31 by omega), nI_clamp (show a < 2 ^ 31 by omega), r2, mset_s, mm2_d, ea.2.1, ej.2.1, leI (show ht j < 2 ^ 31 by omega) (show ht a < 2 ^ 31 by omega)]
      rw [upS_s]
      cases hb : upS ht a j with
      | none =>
        dsimp only
        by_cases c : ht j ≤ ht a
        · rw [if_pos c, if_neg (by omega)]
        · rw [if_neg c, if_pos (show en none = -1 from rfl), if_pos (show ht a < ht j by omega)]
          rfl
      | some b =>
        have hbl := (upS_lt hb).1
        have eb := hw b (by omega)
        simp only [en, if_neg (nI_ne1 (show b < 2 ^ 31 by omega)), ckI (show b < 8 by omega) (by decide), nI_clamp (show b < 2 ^ 31 by omega), eb.2.1, leI (show ht b < 2 ^ 31 by omega) (show ht j < 2 ^ 31 by omega)]
        by_cases c : ht j ≤ ht a
        · rw [if_pos c, if_neg (by omega)]
        · by_cases c2 : ht b ≤ ht j
          · rw [if_neg c, if_pos c2, if_neg (by omega)]
          · rw [if_neg c, if_neg c2, if_pos (by omega)]
    have hdn : ∀ x, x = en (dnS ht a (j + 1)) → mset (mset M (v + 3) a x) (v + 4) a (en (upS ht a (j + 1))) = rkM M v a nw ht (j + 1) := fun x hx => by subst hx; rfl
    unfold F8_rank_b84
    simp only [nI_clamp (show a < 2 ^ 31 by omega), ckI (show a < 8 by omega) (by decide)]
    unfold rkM
    simp only [r2, ea.2.1, ej.2.1, leI (show ht a < 2 ^ 31 by omega) (show ht j < 2 ^ 31 by omega), mm2_c (show v + 3 ≠ v + 4 by omega), hup]
    show _ = F8_rank_h31 kx v n (nI a) (nI (j + 1)) (rkM M v a nw ht (j + 1))
    unfold rkM
    rw [dnS_s]
    cases hb : dnS ht a j with
    | none =>
      dsimp only
      by_cases c : ht a ≤ ht j
      · rw [if_pos c, if_neg (by omega)]
      · rw [if_neg c, if_pos (show en none = -1 from rfl), if_pos (show ht j < ht a by omega)]
        rfl
    | some b =>
      have hbl := (dnS_lt hb).1
      have eb := hw b (by omega)
      simp only [en, if_neg (nI_ne1 (show b < 2 ^ 31 by omega)), ckI (show b < 8 by omega) (by decide), nI_clamp (show b < 2 ^ 31 by omega), eb.2.1, leI (show ht j < 2 ^ 31 by omega) (show ht b < 2 ^ 31 by omega)]
      by_cases c : ht a ≤ ht j
      · rw [if_pos c, if_neg (by omega)]
      · by_cases c2 : ht j ≤ ht b
        · rw [if_neg c, if_pos c2, if_neg (by omega)]
        · rw [if_neg c, if_neg c2, if_pos (by omega)]
