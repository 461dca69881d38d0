/-! the beginning: nothing told, nothing done -/
def b00 : Nat → Nat := fun _ => 0
def e00 : EV := (b00, b00, b00)
theorem nW_00 : nW b00 0 = 0 := by unfold nW fW; rfl
theorem nS_00 : nS b00 0 = 0 := by unfold nS fS; rfl
theorem inv_0 : Inv mcI mmI := by
  refine ⟨((0, b00), (0, b00)), (e00, 0), (0, e00), ⟨⟨⟨rfl, fun i hi => absurd hi (Nat.not_lt_zero i)⟩, by decide, ?_⟩, ⟨rfl, fun i hi => absurd hi (Nat.not_lt_zero i)⟩, by decide, ?_⟩, CI.stale ⟨⟨⟨?_, ?_, ?_⟩, ?_, ?_⟩, ⟨by decide, rfl, fun i hi => absurd hi (Nat.not_lt_zero i)⟩, ⟨?_, ?_, ?_⟩, by decide, rfl, fun i hi => absurd hi (Nat.not_lt_zero i)⟩ rfl rfl, ⟨⟨⟨rfl, fun i hi => absurd hi (Nat.not_lt_zero i)⟩, rfl, fun i hi => absurd hi (Nat.not_lt_zero i)⟩, ⟨by decide, rfl, ⟨0, by decide, rfl, fun i hi => absurd hi (Nat.not_lt_zero i)⟩, fun i hi => absurd hi (Nat.not_lt_zero i)⟩, ⟨rfl, rfl⟩, by decide, rfl, fun i hi => absurd hi (Nat.not_lt_zero i)⟩, fun t ht => ?_, rfl⟩
  · show mcI 2 2 = en (fW b00 0)
    unfold fW
    rfl
  · show mcI 4 2 = en (fS b00 0)
    unfold fS
    rfl
  · show nW b00 0 ≤ 8
    rw [nW_00]; decide
  · show mcI 6 4 = nI (nW b00 0)
    rw [nW_00]; rfl
  · intro k (hk : k < nW b00 0)
    rw [nW_00] at hk
    exact absurd hk (Nat.not_lt_zero k)
  · show mcI 6 5 = en (laS (htW b00) (nW b00 0))
    rw [nW_00]; rfl
  · intro k (hk : k < nW b00 0)
    rw [nW_00] at hk
    exact absurd hk (Nat.not_lt_zero k)
  · show nS b00 0 ≤ 8
    rw [nS_00]; decide
  · show mcI 11 5 = nI (nS b00 0)
    rw [nS_00]; rfl
  · intro p (hp : p < nS b00 0)
    rw [nS_00] at hp
    exact absurd hp (Nat.not_lt_zero p)
  · refine ⟨none, 0, by decide, (fun j hj => nomatch hj), ?_, ?_, fun h => absurd rfl h⟩
    · rcases (show t = 0 ∨ t = 1 ∨ t = 2 ∨ t = 3 by omega) with rfl | rfl | rfl | rfl <;> rfl
    · rcases (show t = 0 ∨ t = 1 ∨ t = 2 ∨ t = 3 by omega) with rfl | rfl | rfl | rfl <;> decide
theorem lst_all : LSt Inv := ⟨ls_0, ls_1, ls_2, ls_3, ls_4, ls_5, ls_6, ls_7, ls_8, ls_9, ls_10, ls_11, ls_12, ls_13, ls_14, ls_15, ls_16, ls_17, ls_18, ls_19, ls_20, ls_21, ls_22, ls_23, ls_24, ls_25, ls_26, ls_27, ls_28, ls_29, ls_30, ls_31, ls_32, ls_33⟩
