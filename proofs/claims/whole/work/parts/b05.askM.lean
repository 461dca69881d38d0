/-! the reference: ask, chance, day, count -/
theorem r_alike {mm : Mem} {sm : Nat → Bool} {f : Nat → Nat} {h : Nat} (hh : h < 40) (hf : ∀ a, a < 10 → f a ≤ 8) (hM : ∀ a, a < 10 → mm 21 (40 * a + h) = nI (f a)) : F10_alike (nI (bitsN sm 10)) (nI h) mm = some (nI (alkN sm f 10)) := by
  have hbit : ∀ x, x < 10 → F10_isIn (nI (bitsN sm 10)) (nI x) = some (b2i (sm x)) := fun x hx => by
    rw [f10_isIn (Nat.lt_of_lt_of_le (bitsN_lt sm 10) (by decide)) (by omega), bitsN_test sm 10 x hx]
  have inn : ∀ (kx : Int32 → Int32 → Int32 → Option Int32) (a3 : Int32) (a : Nat), a < 10 → F10_alike_h18 kx (nI (bitsN sm 10)) (nI h) mm FU a3 (nI a) 0 0 = kx a3 (nI a) (nI (cntN (alkB sm f a) 10)) := by
    intro kx a3 a ha
    refine up_all (fun n s i => F10_alike_h18 kx (nI (bitsN sm 10)) (nI h) mm n a3 (nI a) s i) (fun i => nI (cntN (alkB sm f a) i)) 10 _ (by omega) ?_ ?_
    · intro n
      show F10_alike_p18 _ _ _ _ _ _ _ _ _ = _
      unfold F10_alike_p18
      rw [if_pos (show (10 : Int32) ≤ nI 10 by decide)]
    · intro n b hb
      show F10_alike_p18 _ _ _ _ _ _ _ _ _ = _
      unfold F10_alike_p18 F10_alike_b76 F10_alike_b77
      have fa := hf a ha
      have fb := hf b hb
      rw [if_neg (show ¬ (10 : Int32) ≤ nI b from nI_ge (b := 10) hb (by decide)), hbit a ha, Option.bind_some, hbit b hb, Option.bind_some, zm40, zm40, nI_add, nI_add, ckI (show 40 * a + h < 400 by omega) (by decide), ckI (show 40 * b + h < 400 by omega) (by decide), nI_clamp (show 40 * a + h < 2 ^ 31 by omega), nI_clamp (show 40 * b + h < 2 ^ 31 by omega), hM a ha, hM b hb, nI_1 b, cnt_s]
      simp only [eqI (show f a < 2 ^ 31 by omega) (show f b < 2 ^ 31 by omega)]
      rw [show (0 : Int32) = nI 0 from rfl, show (1 : Int32) = nI 1 from rfl, nI_add, nI_add]
      unfold alkB
      cases sm a with
      | false => rw [if_pos (show b2i false = nI 0 from rfl)]; rfl
      | true =>
        rw [if_neg (show ¬ b2i true = nI 0 by decide)]
        cases sm b with
        | false => rw [if_pos (show b2i false = nI 0 from rfl)]; rfl
        | true =>
          rw [if_neg (show ¬ b2i true = nI 0 by decide)]
          by_cases z : f a = f b
          · rw [if_pos z, z]; simp [b2n]
          · rw [if_neg z, beqf z]; rfl
  have hle : ∀ i, maxN (fun a => cntN (alkB sm f a) 10) i ≤ 10 := fun i => maxN_le (fun j _ => cntN_le _ _)
  unfold F10_alike
  refine up_all (fun n a i => F10_alike_h5 (nI (bitsN sm 10)) (nI h) mm n a i) (fun i => nI (maxN (fun a => cntN (alkB sm f a) 10) i)) 10 _ (by omega) ?_ ?_
  · intro n
    show F10_alike_p5 _ _ _ _ _ _ = _
    unfold F10_alike_p5
    rw [if_pos (show (10 : Int32) ≤ nI 10 by decide)]
    rfl
  · intro n a ha
    show F10_alike_p5 _ _ _ _ _ _ = _
    unfold F10_alike_p5
    rw [if_neg (show ¬ (10 : Int32) ≤ nI a from nI_ge (b := 10) ha (by decide)), inn _ _ a ha]
    unfold F10_alike_b86 F10_greater
    have h1 := hle a
    have h2 := cntN_le (alkB sm f a) 10
    simp only [leI (show cntN (alkB sm f a) 10 < 2 ^ 31 by omega) (show maxN (fun a => cntN (alkB sm f a) 10) a < 2 ^ 31 by omega)]
    rw [nI_1 a, maxN_s]
    by_cases z : cntN (alkB sm f a) 10 ≤ maxN (fun a => cntN (alkB sm f a) 10) a
    · rw [if_pos z, Option.bind_some, Nat.max_eq_left z]
    · rw [if_neg z, Option.bind_some, Nat.max_eq_right (by omega)]
theorem arg_min {f : Nat → Nat} : ∀ {n b : Nat}, argF (fun h => some (f h)) n = some b → minF (fun h => some (f h)) n = some (f b) := by
  intro n
  induction n with
  | zero => intro b h; cases h
  | succ n ih =>
    intro b h
    rw [argF_s] at h
    rw [minF_s]
    dsimp only at h ⊢
    cases hm : minF (fun h => some (f h)) n with
    | none => rw [hm] at h; dsimp only at h ⊢; cases h; rfl
    | some c =>
      rw [hm] at h
      dsimp only at h ⊢
      by_cases z : f n < c
      · rw [if_pos z] at h ⊢; cases h; rfl
      · rw [if_neg z] at h ⊢
        rw [← hm]; exact ih h
theorem arg_some {f : Nat → Nat} : ∀ n, ∃ b, argF (fun h => some (f h)) (n + 1) = some b := by
  intro n
  induction n with
  | zero => exact ⟨0, rfl⟩
  | succ n ih =>
    rw [argF_s]
    dsimp only
    cases hm : minF (fun h => some (f h)) (n + 1) with
    | none => exact ⟨_, rfl⟩
    | some c =>
      dsimp only
      split
      · exact ⟨_, rfl⟩
      · exact ih
theorem arg_s {f : Nat → Nat} {n b : Nat} (h : argF (fun h => some (f h)) n = some b) : argF (fun h => some (f h)) (n + 1) = some (if f n < f b then n else b) := by
  rw [argF_s]
  dsimp only
  rw [arg_min h]
  dsimp only
  by_cases z : f n < f b
  · rw [if_pos z, if_pos z]
  · rw [if_neg z, if_neg z]; exact h
theorem r_askOf {mm : Mem} {K : KX} (R : RB mm K) {k : Nat} (hk : k < K.1.1) : ∃ mm', F10_askOf (nI k) mm = some (aAskOf K k, mm') ∧ FrB mm mm' := by
  have h8 := R.w8
  have n8 := R.n8
  unfold F10_askOf
  obtain ⟨M, q1, q2, q3⟩ := r_stood R hk
  rw [q1, Option.bind_some]
  dsimp only
  refine ⟨M, ?_, q2⟩
  have al : ∀ h, h < 40 → F10_alike (nI (bitsN (stoodB K k) 10)) (nI h) M = some (nI (askN K k h)) := fun h hh => r_alike (f := fun x => inN K k x h) hh (fun a _ => Nat.le_trans (cntN_le _ _) n8) (fun a ha => q3 a h ha hh)
  refine lpQ (fun n (s : Int32 × Int32) => F10_askOf_h11 (nI k) n (nI (bitsN (stoodB K k) 10)) s.1 s.2 M) (fun h s => ∃ b, b < h ∧ argF (fun h => some (askN K k h)) h = some b ∧ s.1 = nI b ∧ s.2 = nI h) (fun r => r = some (aAskOf K k, M)) 40 ?_ ?_ 39 FU 1 (0, 1) (by decide) (FU_lt (by decide)) ⟨0, by decide, rfl, rfl, rfl⟩
  · rintro n h ⟨x, y⟩ hh ⟨b, hb, ha, e1, e2⟩
    dsimp only at e1 e2
    left
    refine ⟨(nI (if askN K k h < askN K k b then h else b), nI (h + 1)), ?_, _, by split <;> omega, arg_s ha, rfl, rfl⟩
    show F10_askOf_p11 _ _ _ x y M = _
    unfold F10_askOf_p11 F10_askOf_b40
    have g1 := askN_le K k h
    have g2 := askN_le K k b
    rw [e1, e2, if_neg (show ¬ (40 : Int32) ≤ nI h from nI_ge (b := 40) hh (by decide)), al h hh, Option.bind_some, al b (by omega), Option.bind_some, nI_1]
    simp only [leI (show askN K k b < 2 ^ 31 by omega) (show askN K k h < 2 ^ 31 by omega)]
    by_cases z : askN K k h < askN K k b
    · rw [if_neg (by omega), if_pos z]
    · rw [if_pos (by omega), if_neg z]
  · rintro n ⟨x, y⟩ ⟨b, hb, ha, e1, e2⟩
    dsimp only at e1 e2
    show F10_askOf_p11 _ _ _ x y M = _
    unfold F10_askOf_p11 aAskOf
    rw [e1, e2, if_pos (show (40 : Int32) ≤ nI 40 by decide), ha]
    rfl
