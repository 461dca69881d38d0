theorem rank_out {v nw : Nat} {st ht : Nat → Nat} : ∀ (m n a : Nat) (M : Mem), a + m = nw → m < n → CW M v nw st ht → CK M v nw ht a → ∃ M', F8_rank_h7 v n (nI a) M = some M' ∧ FrR v M M' ∧ CK M' v nw ht nw := by
  intro m
  induction m with
  | zero =>
    intro n a M hm hn C K
    obtain ⟨n', rfl⟩ : ∃ n', n = n' + 1 := ⟨n - 1, by omega⟩
    have : a = nw := by omega
    subst this
    refine ⟨M, ?_, FrR.refl v M, K⟩
    show F8_rank_p7 _ _ _ _ = _
    unfold F8_rank_p7
    rw [C.2.1, if_pos (nI_le (Nat.le_refl _) (by have := C.1; omega))]
  | succ m ih =>
    intro n a M hm hn C K
    obtain ⟨n', rfl⟩ : ∃ n', n = n' + 1 := ⟨n - 1, by omega⟩
    have h8 := C.1
    have ea := C.2.2 a (by omega)
    have f1 : FrR v M (rkM M v a nw ht nw) := ((FrR.refl v M).s3 _ _).s4 _ _
    have C1 := C.fr f1
    have z5 : rkM M v a nw ht nw v 5 = en (laS ht a) := by unfold rkM; rw [mset_n (by omega), mset_n (by omega)]; exact K.1
    have hk : ∀ x, x = en (laS ht (a + 1)) → CK (mset (rkM M v a nw ht nw) v 5 x) v nw ht (a + 1) := by
      intro x hx
      refine ⟨by rw [mset_s]; exact hx, fun k hk => ?_⟩
      rw [mset_n (by omega), mset_n (by omega)]
      by_cases e : k = a
      · subst e; exact rkM_s
      · unfold rkM
        rw [mset_n (show v + 3 ≠ v + 4 by omega), mset_o e, mset_o e, mset_n (show v + 4 ≠ v + 3 by omega)]
        exact K.2 k (by omega)
    have hk0 : en (laS ht a) = en (laS ht (a + 1)) → CK (rkM M v a nw ht nw) v nw ht (a + 1) := by
      intro hx
      refine ⟨z5.trans hx, fun k hk => ?_⟩
      by_cases e : k = a
      · subst e; exact rkM_s
      · unfold rkM
        rw [mset_n (show v + 3 ≠ v + 4 by omega), mset_o e, mset_o e, mset_n (show v + 4 ≠ v + 3 by omega)]
        exact K.2 k (by omega)
    have key : F8_rank_h7 v (n' + 1) (nI a) M = F8_rank_b149 (F8_rank_h7 v n') v (nI a) (rkM M v a nw ht nw) := by
      show F8_rank_p7 _ _ _ _ = _
      unfold F8_rank_p7
      rw [C.2.1, if_neg (nI_ge (show a < nw by omega) (by omega)), ckI (show a < 8 by omega) (by decide), ckI (show a < 8 by omega) (by decide), nI_clamp (show a < 2 ^ 31 by omega)]
      exact rank_in C (show a < nw by omega) _
    have next : ∀ M2, FrR v (rkM M v a nw ht nw) M2 → CK M2 v nw ht (a + 1) → ∃ M', F8_rank_h7 v n' (nI (a + 1)) M2 = some M' ∧ FrR v M M' ∧ CK M' v nw ht nw := by
      intro M2 f2 K2
      obtain ⟨M', q1, q2, q3⟩ := ih n' (a + 1) M2 (by omega) (by omega) (C1.fr f2) K2
      exact ⟨M', q1, (f1.trans f2).trans q2, q3⟩
    rw [key]
    unfold F8_rank_b149 F8_rank_b175 F8_rank_b180
    rw [z5, nI_1]
    cases hb : laS ht a with
    | none =>
      rw [if_pos (show en none = -1 from rfl)]
      exact next _ ((FrR.refl v _).s0 _) (hk _ (by rw [laS_s, hb]; rfl))
    | some b =>
      have hbl := laS_lt hb
      have eb := C1.2.2 b (by omega)
      have ea := C1.2.2 a (by omega)
      rw [if_neg (show ¬ en (some b) = -1 from nI_ne1 (by omega))]
      simp only [en, ckI (show a < 8 by omega) (by decide), ckI (show b < 8 by omega) (by decide), nI_clamp (show a < 2 ^ 31 by omega), nI_clamp (show b < 2 ^ 31 by omega), ea.2.1, eb.2.1, leI (show ht b < 2 ^ 31 by omega) (show ht a < 2 ^ 31 by omega)]
      by_cases c : ht b ≤ ht a
      · rw [if_pos c]
        exact next _ (FrR.refl v _) (hk0 (by rw [laS_s, hb]; dsimp only; rw [if_neg (by omega)]))
      · rw [if_neg c]
        exact next _ ((FrR.refl v _).s0 _) (hk _ (by rw [laS_s, hb]; dsimp only; rw [if_pos (by omega)]; rfl))
/-- the class ranks its wells -/
theorem f8_rank {mc : Mem} {v nw : Nat} {st ht : Nat → Nat} (C : CW mc v nw st ht) : ∃ mc', F8_rank v mc = some mc' ∧ FrR v mc mc' ∧ CK mc' v nw ht nw := by
  have f : FrR v mc (mset mc v 5 (-1)) := (FrR.refl v mc).s0 _
  obtain ⟨M', q1, q2, q3⟩ := rank_out nw FU 0 _ (by omega) (FU_lt (by have := C.1; omega)) (C.fr f) (show CK (mset mc v 5 (-1)) v nw ht 0 from ⟨by rw [mset_s]; rfl, fun k hk => by omega⟩)
  exact ⟨M', q1, f.trans q2, q3⟩
theorem CK.fr0 {mc mc' : Mem} {v nw : Nat} {ht : Nat → Nat} {a : Nat} (h : CK mc v nw ht a) (h0 : mc' v 5 = mc v 5) (h3 : mc' (v + 3) = mc (v + 3)) (h4 : mc' (v + 4) = mc (v + 4)) : CK mc' v nw ht a := by
  unfold CK; rw [h0, h3, h4]; exact h
theorem f8_stay {mc : Mem} {v nw : Nat} {st ht : Nat → Nat} (C : CW mc v nw st ht) {k : Nat} (hk : k < nw) : F8_stay v (nI k) mc = some (nI (stayS st k)) := by
  obtain ⟨h8, hn, hw⟩ := C
  have ek := hw k hk
  unfold F8_stay F8_stay_b26
  rw [hn, if_neg (nI_pos (show k < 2 ^ 31 by omega)), if_neg (nI_ge hk (by omega)), ckI (show k < 8 by omega) (by decide), nI_clamp (show k < 2 ^ 31 by omega), ek.1]
  unfold stayS
  by_cases c : st k = 2
  · rw [if_pos c, if_pos (by rw [c]; rfl)]; rfl
  · rw [if_neg c, if_neg (show ¬ nI (st k) = 2 from fun z => c ((nI_eq (b := 2) (by omega) (by decide)).mp z))]; rfl
