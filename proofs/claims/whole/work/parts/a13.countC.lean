/-! the class: count -/
def timesN (K : KX) : Nat := sumN (fun p => sumN (fun h => b2n (hrdS K.1 (H0 K) (K.2.2.1.2.1 p) h)) 40) K.2.2.1.1
theorem c_times {mc : Mem} {K : KX} (I : CI mc K) : ∃ mc', F9_timesHeard mc = some (nI (timesN K), mc') ∧ FC mc mc' ∧ CI mc' K := by
  have n8 := I.1.n8
  unfold F9_timesHeard timesN
  obtain ⟨M, r1, r2, r3, -, -⟩ := f9_refresh I
  rw [r1, Option.bind_some]
  refine ⟨M, ?_, r2, r3.ci⟩
  refine up_all (fun n a i => F9_timesHeard_h8 n a i M) (fun i => nI (sumN (fun p => sumN (fun h => b2n (hrdS K.1 (H0 K) (K.2.2.1.2.1 p) h)) 40) i)) K.2.2.1.1 _ (by omega) ?_ ?_
  · intro n
    show F9_timesHeard_p8 _ _ _ _ = _
    unfold F9_timesHeard_p8
    rw [r3.1.2.2.1.2.1, if_pos (nI_le (Nat.le_refl _) (by omega))]
  · intro n p hp
    show F9_timesHeard_p8 _ _ _ _ = _
    unfold F9_timesHeard_p8
    rw [r3.1.2.2.1.2.1, if_neg (nI_ge hp (by omega)), ckI (show p < 8 by omega) (by decide), nI_clamp (show p < 2 ^ 31 by omega), f4_times (r3.2.1.2 p hp), Option.bind_some, nI_1, nI_add]
    rfl
def aCount (K : KX) (t2 t3 l v : Int32) : Int32 := if v = 0 then nI K.1.1 else if v = 1 then nI K.2.2.1.1 else if v = 2 then t2 else if v = 3 then t3 else if v = 4 then nI K.2.1.2 else if v = 5 then nI (cntN (fun p => goneS K.1 (H0 K) (K.2.2.1.2.1 p)) K.2.2.1.1) else if v = 6 then nI (timesN K) else if v = 7 then nI K.2.2.2.1 else if v = 8 then l else -2
theorem c_count {mc : Mem} {K : KX} (I : CI mc K) (v : Int32) : ∃ mc', F9_count v mc = some (aCount K (mc 2 1) (mc 4 1) (mc 0 6) v, mc') ∧ FC mc mc' ∧ CI mc' K := by
  unfold F9_count aCount
  have same : ∃ mc', some ((0 : Int32), mc) = some (0, mc') ∧ FC mc mc' ∧ CI mc' K := ⟨mc, rfl, FC.refl mc, I⟩
  by_cases d0 : v = 0
  · rw [if_pos d0, if_pos d0, I.1.1.1.2.1]; exact ⟨mc, rfl, FC.refl mc, I⟩
  rw [if_neg d0, if_neg d0]
  by_cases d1 : v = 1
  · rw [if_pos d1, if_pos d1, I.1.2.2.1.2.1]; exact ⟨mc, rfl, FC.refl mc, I⟩
  rw [if_neg d1, if_neg d1]
  by_cases d2 : v = 2
  · rw [if_pos d2, if_pos d2]; exact ⟨mc, rfl, FC.refl mc, I⟩
  rw [if_neg d2, if_neg d2]
  by_cases d3 : v = 3
  · rw [if_pos d3, if_pos d3]; exact ⟨mc, rfl, FC.refl mc, I⟩
  rw [if_neg d3, if_neg d3]
  by_cases d4 : v = 4
  · rw [if_pos d4, if_pos d4, I.1.2.1.2.1]; exact ⟨mc, rfl, FC.refl mc, I⟩
  rw [if_neg d4, if_neg d4]
  by_cases d5 : v = 5
  · rw [if_pos d5, if_pos d5]
    obtain ⟨M, r1, r2, r3, -⟩ := c_gone I
    rw [r1, Option.bind_some]
    dsimp only
    rw [show F6_bitCount_0f7a4 (aGone K) = _ from bits_count _ I.1.n8]
    exact ⟨M, rfl, r2, r3.ci⟩
  rw [if_neg d5, if_neg d5]
  by_cases d6 : v = 6
  · rw [if_pos d6, if_pos d6]
    obtain ⟨M, r1, r2, r3⟩ := c_times I
    rw [r1]
    exact ⟨M, rfl, r2, r3⟩
  rw [if_neg d6, if_neg d6]
  by_cases d7 : v = 7
  · rw [if_pos d7, if_pos d7, I.1.2.2.2.2.1]; exact ⟨mc, rfl, FC.refl mc, I⟩
  rw [if_neg d7, if_neg d7]
  by_cases d8 : v = 8
  · rw [if_pos d8, if_pos d8]; exact ⟨mc, rfl, FC.refl mc, I⟩
  rw [if_neg d8, if_neg d8]
  exact ⟨mc, rfl, FC.refl mc, I⟩
