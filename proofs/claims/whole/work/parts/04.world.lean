/-! ONE MEMORY: the cells of the class (0 to 107) and of the reference (108 to 130) stand at fixed places; what they hold are ints: mc k i is what place i of cell k holds (of an object: its field i), mm j i what place i of the reference's cell j holds. -/
abbrev Mem : Type := Nat → Nat → Int32
def mset (m : Mem) (k i : Nat) (v : Int32) : Mem := fun a => if a = k then upd (m k) i v else m a
def kdL : List Nat := [9, 22, 7, 20, 7, 20, 8, 20, 20, 20, 20, 5, 20, 20, 20, 20, 20, 2, 20, 20, 20, 1, 20, 20, 20, 23, 6, 20, 6, 20, 6, 20, 6, 20, 3, 20, 20, 21, 24, 4, 20, 20, 20, 20, 4, 20, 20, 20, 20, 4, 20, 20, 20, 20, 4, 20, 20, 20, 20, 4, 20, 20, 20, 20, 4, 20, 20, 20, 20, 4, 20, 20, 20, 20, 4, 20, 20, 20, 20, 8, 20, 20, 20, 20, 3, 20, 20, 21, 2, 20, 20, 20, 4, 20, 20, 20, 20, 20, 20, 25, 0, 0, 0, 0, 0, 0, 0, 0, 10, 20, 20, 20, 20, 20, 20, 20, 20, 20, 20, 20, 20, 20, 20, 21, 20, 20, 20, 20, 20, 20, 20]
def kd (k : Nat) : Nat := kdL.getD k 99
def lnL : List Nat := [0, 2, 0, 23, 0, 63, 0, 8, 8, 8, 8, 0, 8, 8, 8, 8, 32, 0, 8, 8, 8, 0, 8, 8, 8, 4, 0, 60, 0, 60, 0, 60, 0, 60, 0, 40, 40, 40, 8, 0, 40, 40, 40, 40, 0, 40, 40, 40, 40, 0, 40, 40, 40, 40, 0, 40, 40, 40, 40, 0, 40, 40, 40, 40, 0, 40, 40, 40, 40, 0, 40, 40, 40, 40, 0, 40, 40, 40, 40, 0, 8, 8, 8, 8, 0, 40, 40, 40, 0, 8, 8, 8, 0, 40, 40, 40, 40, 400, 9, 8, 0, 0, 0, 0, 0, 0, 0, 0, 0, 4, 4, 240, 60, 128, 2, 16, 64, 24, 8, 8, 8, 8, 8, 8, 320, 320, 320, 320, 24, 400, 24]
def ln (k : Nat) : Nat := lnL.getD k 0
/-- the addresses; the array classes; the classes' numbers and slots; the Strings and their bytes -/
abbrev GG : Type := (Nat → Nat) × (Nat → ClassId) × va_G × (Nat → Nat) × (Nat → Nat)
def wE (g : GG) (k : Nat) (f : Nat → Int32) : va_E := match kd k with
  | 0 => .inr (0, [.int (f 0), .int (f 1), .int (f 2)])
  | 1 => .inr (1, [.ref (g.1 (k + 1)), .ref (g.1 (k + 2)), .ref (g.1 (k + 3)), .int (f 3)])
  | 2 => .inr (2, [.ref (g.1 (k + 1)), .ref (g.1 (k + 2)), .ref (g.1 (k + 3)), .int (f 3)])
  | 3 => .inr (3, [.ref (g.1 (k + 1)), .ref (g.1 (k + 2)), .ref (g.1 (k + 3))])
  | 4 => .inr (4, [.ref (g.1 (k + 1)), .ref (g.1 (k + 2)), .ref (g.1 (k + 3)), .ref (g.1 (k + 4)), .int (f 4), .int (f 5), .int (f 6), .int (f 7), .int (f 8), .int (f 9)])
  | 5 => .inr (5, [.ref (g.1 (k + 1)), .ref (g.1 (k + 2)), .ref (g.1 (k + 3)), .ref (g.1 (k + 4)), .ref (g.1 (k + 5)), .int (f 5)])
  | 6 => .inr (6, [.ref (g.1 (k + 1)), .int (f 1), .int (f 2)])
  | 7 => .inr (7, [.ref (g.1 (k + 1)), .int (f 1), .int (f 2)])
  | 8 => .inr (8, [.ref (g.1 (k + 1)), .ref (g.1 (k + 2)), .ref (g.1 (k + 3)), .ref (g.1 (k + 4)), .int (f 4), .int (f 5)])
  | 9 => .inr (9, [.ref (g.1 1), .ref (g.1 6), .ref (g.1 11), .ref (g.1 17), .ref (g.1 21), .ref (g.1 25), .int (f 6), .ref (g.1 34), .ref (g.1 38), .int (f 9), .ref (g.1 79), .ref (g.1 84), .ref (g.1 88), .ref (g.1 92), .ref (g.1 97), .ref (g.1 98), .ref (g.1 99), .int (f 17)])
  | 10 => .inr (10, [.ref (g.1 109), .ref (g.1 110), .ref (g.1 111), .ref (g.1 112), .int (f 4), .ref (g.1 113), .ref (g.1 114), .int (f 7), .ref (g.1 115), .int (f 9), .ref (g.1 116), .int (f 11), .ref (g.1 117), .int (f 13), .int (f 14), .int (f 15), .ref (g.1 118), .ref (g.1 119), .ref (g.1 120), .ref (g.1 121), .ref (g.1 122), .ref (g.1 123), .ref (g.1 124), .ref (g.1 125), .ref (g.1 126), .ref (g.1 127), .int (f 26), .ref (g.1 128), .ref (g.1 129), .int (f 29), .ref (g.1 130)])
  | 20 => .inl (g.2.1 0, ln k, .inl f)
  | 21 => .inl (g.2.1 1, ln k, .inl f)
  | 22 => .inl (g.2.1 2, 2, .inr (.inr (.inr (.inr (fun i => some (g.1 (2 + 2 * i)))))))
  | 23 => .inl (g.2.1 3, 4, .inr (.inr (.inr (.inr (fun i => some (g.1 (26 + 2 * i)))))))
  | 24 => .inl (g.2.1 4, 8, .inr (.inr (.inr (.inr (fun i => some (g.1 (39 + 5 * i)))))))
  | _ => .inl (g.2.1 5, 8, .inr (.inr (.inr (.inr (fun i => some (g.1 (100 + 1 * i)))))))
theorem wE_0 {g : GG} {k : Nat} {f : Nat → Int32} (h : kd k = 0) : wE g k f = .inr (0, [.int (f 0), .int (f 1), .int (f 2)]) := by simp only [wE, h]
theorem wE_1 {g : GG} {k : Nat} {f : Nat → Int32} (h : kd k = 1) : wE g k f = .inr (1, [.ref (g.1 (k + 1)), .ref (g.1 (k + 2)), .ref (g.1 (k + 3)), .int (f 3)]) := by simp only [wE, h]
theorem wE_2 {g : GG} {k : Nat} {f : Nat → Int32} (h : kd k = 2) : wE g k f = .inr (2, [.ref (g.1 (k + 1)), .ref (g.1 (k + 2)), .ref (g.1 (k + 3)), .int (f 3)]) := by simp only [wE, h]
theorem wE_3 {g : GG} {k : Nat} {f : Nat → Int32} (h : kd k = 3) : wE g k f = .inr (3, [.ref (g.1 (k + 1)), .ref (g.1 (k + 2)), .ref (g.1 (k + 3))]) := by simp only [wE, h]
theorem wE_4 {g : GG} {k : Nat} {f : Nat → Int32} (h : kd k = 4) : wE g k f = .inr (4, [.ref (g.1 (k + 1)), .ref (g.1 (k + 2)), .ref (g.1 (k + 3)), .ref (g.1 (k + 4)), .int (f 4), .int (f 5), .int (f 6), .int (f 7), .int (f 8), .int (f 9)]) := by simp only [wE, h]
theorem wE_5 {g : GG} {k : Nat} {f : Nat → Int32} (h : kd k = 5) : wE g k f = .inr (5, [.ref (g.1 (k + 1)), .ref (g.1 (k + 2)), .ref (g.1 (k + 3)), .ref (g.1 (k + 4)), .ref (g.1 (k + 5)), .int (f 5)]) := by simp only [wE, h]
theorem wE_6 {g : GG} {k : Nat} {f : Nat → Int32} (h : kd k = 6) : wE g k f = .inr (6, [.ref (g.1 (k + 1)), .int (f 1), .int (f 2)]) := by simp only [wE, h]
theorem wE_7 {g : GG} {k : Nat} {f : Nat → Int32} (h : kd k = 7) : wE g k f = .inr (7, [.ref (g.1 (k + 1)), .int (f 1), .int (f 2)]) := by simp only [wE, h]
theorem wE_8 {g : GG} {k : Nat} {f : Nat → Int32} (h : kd k = 8) : wE g k f = .inr (8, [.ref (g.1 (k + 1)), .ref (g.1 (k + 2)), .ref (g.1 (k + 3)), .ref (g.1 (k + 4)), .int (f 4), .int (f 5)]) := by simp only [wE, h]
theorem wE_9 {g : GG} {k : Nat} {f : Nat → Int32} (h : kd k = 9) : wE g k f = .inr (9, [.ref (g.1 1), .ref (g.1 6), .ref (g.1 11), .ref (g.1 17), .ref (g.1 21), .ref (g.1 25), .int (f 6), .ref (g.1 34), .ref (g.1 38), .int (f 9), .ref (g.1 79), .ref (g.1 84), .ref (g.1 88), .ref (g.1 92), .ref (g.1 97), .ref (g.1 98), .ref (g.1 99), .int (f 17)]) := by simp only [wE, h]
theorem wE_10 {g : GG} {k : Nat} {f : Nat → Int32} (h : kd k = 10) : wE g k f = .inr (10, [.ref (g.1 109), .ref (g.1 110), .ref (g.1 111), .ref (g.1 112), .int (f 4), .ref (g.1 113), .ref (g.1 114), .int (f 7), .ref (g.1 115), .int (f 9), .ref (g.1 116), .int (f 11), .ref (g.1 117), .int (f 13), .int (f 14), .int (f 15), .ref (g.1 118), .ref (g.1 119), .ref (g.1 120), .ref (g.1 121), .ref (g.1 122), .ref (g.1 123), .ref (g.1 124), .ref (g.1 125), .ref (g.1 126), .ref (g.1 127), .int (f 26), .ref (g.1 128), .ref (g.1 129), .int (f 29), .ref (g.1 130)]) := by simp only [wE, h]
theorem wE_20 {g : GG} {k : Nat} {f : Nat → Int32} (h : kd k = 20) : wE g k f = .inl (g.2.1 0, ln k, .inl f) := by simp only [wE, h]
theorem wE_21 {g : GG} {k : Nat} {f : Nat → Int32} (h : kd k = 21) : wE g k f = .inl (g.2.1 1, ln k, .inl f) := by simp only [wE, h]
theorem wE_22 {g : GG} {f : Nat → Int32} : wE g 1 f = .inl (g.2.1 2, 2, .inr (.inr (.inr (.inr (fun i => some (g.1 (2 + 2 * i))))))) := rfl
theorem wE_23 {g : GG} {f : Nat → Int32} : wE g 25 f = .inl (g.2.1 3, 4, .inr (.inr (.inr (.inr (fun i => some (g.1 (26 + 2 * i))))))) := rfl
theorem wE_24 {g : GG} {f : Nat → Int32} : wE g 38 f = .inl (g.2.1 4, 8, .inr (.inr (.inr (.inr (fun i => some (g.1 (39 + 5 * i))))))) := rfl
theorem wE_25 {g : GG} {f : Nat → Int32} : wE g 99 f = .inl (g.2.1 5, 8, .inr (.inr (.inr (.inr (fun i => some (g.1 (100 + 1 * i))))))) := rfl
def wL (g : GG) (mc mm : Mem) : va_W := (List.range 108).map (fun k => (g.1 k, wE g k (mc k))) ++ (List.range 23).map (fun j => (g.1 (108 + j), wE g (108 + j) (mm j)))
theorem wL_C {g : GG} {mc mm : Mem} {k : Nat} (h : k < 108) : (wL g mc mm)[k]? = some (g.1 k, wE g k (mc k)) := by
  unfold wL
  rw [List.getElem?_append_left (by simpa using h), List.getElem?_map, List.getElem?_range h]
  rfl
theorem wL_M {g : GG} {mc mm : Mem} (j : Nat) (h : j < 23) : (wL g mc mm)[108 + j]? = some (g.1 (108 + j), wE g (108 + j) (mm j)) := by
  unfold wL
  rw [List.getElem?_append_right (by simp), List.getElem?_map, List.length_map, List.length_range, Nat.add_sub_cancel_left, List.getElem?_range h]
  rfl
theorem wL_len {g : GG} {mc mm : Mem} : (wL g mc mm).length = 131 := by simp [wL]
theorem wL_at {g : GG} {mc mm : Mem} {k : Nat} {q : Nat × va_E} (h : (wL g mc mm)[k]? = some q) : k < 131 ∧ q.1 = g.1 k := by
  have hl : k < 131 := by rw [← wL_len (g := g) (mc := mc) (mm := mm)]; exact (List.getElem?_eq_some_iff.mp h).1
  refine ⟨hl, ?_⟩
  by_cases hk : k < 108
  · rw [wL_C hk] at h
    cases h
    rfl
  · obtain ⟨j, rfl⟩ : ∃ j, k = 108 + j := ⟨k - 108, by omega⟩
    rw [wL_M j (by omega)] at h
    cases h
    rfl
theorem wL_setC {g : GG} {mc mm : Mem} {k : Nat} (h : k < 108) (f : Nat → Int32) : (wL g mc mm).set k (g.1 k, wE g k f) = wL g (fun a => if a = k then f else mc a) mm := by
  apply List.ext_getElem?
  intro i
  by_cases hi : i = k
  · subst hi
    rw [List.getElem?_set_self (by rw [wL_len]; omega), wL_C h]
    simp
  · rw [List.getElem?_set_ne (Ne.symm hi)]
    by_cases h1 : i < 108
    · rw [wL_C h1, wL_C h1]; simp [hi]
    · by_cases h2 : i < 131
      · obtain ⟨j, rfl⟩ : ∃ j, i = 108 + j := ⟨i - 108, by omega⟩
        rw [wL_M j (by omega), wL_M j (by omega)]
      · rw [List.getElem?_eq_none (by rw [wL_len]; omega), List.getElem?_eq_none (by rw [wL_len]; omega)]
theorem wL_setM {g : GG} {mc mm : Mem} (j : Nat) (h : j < 23) (f : Nat → Int32) : (wL g mc mm).set (108 + j) (g.1 (108 + j), wE g (108 + j) f) = wL g mc (fun a => if a = j then f else mm a) := by
  apply List.ext_getElem?
  intro i
  by_cases hi : i = 108 + j
  · subst hi
    rw [List.getElem?_set_self (by rw [wL_len]; omega), wL_M j h]
    simp
  · rw [List.getElem?_set_ne (Ne.symm hi)]
    by_cases h1 : i < 108
    · rw [wL_C h1, wL_C h1]
    · by_cases h2 : i < 131
      · obtain ⟨j', rfl⟩ : ∃ j, i = 108 + j := ⟨i - 108, by omega⟩
        have : ¬ j' = j := fun q => hi (by rw [q])
        rw [wL_M j' (by omega), wL_M j' (by omega)]; simp [this]
      · rw [List.getElem?_eq_none (by rw [wL_len]; omega), List.getElem?_eq_none (by rw [wL_len]; omega)]
def isO (c k : Nat) : Prop := k < 108 ∧ kd k = c
def isA (n k : Nat) : Prop := k < 108 ∧ kd k = 20 ∧ ln k = n
def isZ (n k : Nat) : Prop := k < 108 ∧ kd k = 21 ∧ ln k = n
theorem ia_1_0 {k : Nat} (h : isO 1 k) : isA 8 (k + 1) := by
  have q : ∀ k, k < 108 → kd k = 1 → k + 1 < 108 ∧ kd (k + 1) = 20 ∧ ln (k + 1) = 8 := by decide +kernel
  exact q k h.1 h.2
theorem ia_1_1 {k : Nat} (h : isO 1 k) : isA 8 (k + 2) := by
  have q : ∀ k, k < 108 → kd k = 1 → k + 2 < 108 ∧ kd (k + 2) = 20 ∧ ln (k + 2) = 8 := by decide +kernel
  exact q k h.1 h.2
theorem ia_1_2 {k : Nat} (h : isO 1 k) : isA 8 (k + 3) := by
  have q : ∀ k, k < 108 → kd k = 1 → k + 3 < 108 ∧ kd (k + 3) = 20 ∧ ln (k + 3) = 8 := by decide +kernel
  exact q k h.1 h.2
theorem ia_2_0 {k : Nat} (h : isO 2 k) : isA 8 (k + 1) := by
  have q : ∀ k, k < 108 → kd k = 2 → k + 1 < 108 ∧ kd (k + 1) = 20 ∧ ln (k + 1) = 8 := by decide +kernel
  exact q k h.1 h.2
theorem ia_2_1 {k : Nat} (h : isO 2 k) : isA 8 (k + 2) := by
  have q : ∀ k, k < 108 → kd k = 2 → k + 2 < 108 ∧ kd (k + 2) = 20 ∧ ln (k + 2) = 8 := by decide +kernel
  exact q k h.1 h.2
theorem ia_2_2 {k : Nat} (h : isO 2 k) : isA 8 (k + 3) := by
  have q : ∀ k, k < 108 → kd k = 2 → k + 3 < 108 ∧ kd (k + 3) = 20 ∧ ln (k + 3) = 8 := by decide +kernel
  exact q k h.1 h.2
theorem ia_3_0 {k : Nat} (h : isO 3 k) : isA 40 (k + 1) := by
  have q : ∀ k, k < 108 → kd k = 3 → k + 1 < 108 ∧ kd (k + 1) = 20 ∧ ln (k + 1) = 40 := by decide +kernel
  exact q k h.1 h.2
theorem ia_3_1 {k : Nat} (h : isO 3 k) : isA 40 (k + 2) := by
  have q : ∀ k, k < 108 → kd k = 3 → k + 2 < 108 ∧ kd (k + 2) = 20 ∧ ln (k + 2) = 40 := by decide +kernel
  exact q k h.1 h.2
theorem ia_3_2 {k : Nat} (h : isO 3 k) : isZ 40 (k + 3) := by
  have q : ∀ k, k < 108 → kd k = 3 → k + 3 < 108 ∧ kd (k + 3) = 21 ∧ ln (k + 3) = 40 := by decide +kernel
  exact q k h.1 h.2
theorem ia_4_0 {k : Nat} (h : isO 4 k) : isA 40 (k + 1) := by
  have q : ∀ k, k < 108 → kd k = 4 → k + 1 < 108 ∧ kd (k + 1) = 20 ∧ ln (k + 1) = 40 := by decide +kernel
  exact q k h.1 h.2
theorem ia_4_1 {k : Nat} (h : isO 4 k) : isA 40 (k + 2) := by
  have q : ∀ k, k < 108 → kd k = 4 → k + 2 < 108 ∧ kd (k + 2) = 20 ∧ ln (k + 2) = 40 := by decide +kernel
  exact q k h.1 h.2
theorem ia_4_2 {k : Nat} (h : isO 4 k) : isA 40 (k + 3) := by
  have q : ∀ k, k < 108 → kd k = 4 → k + 3 < 108 ∧ kd (k + 3) = 20 ∧ ln (k + 3) = 40 := by decide +kernel
  exact q k h.1 h.2
theorem ia_4_3 {k : Nat} (h : isO 4 k) : isA 40 (k + 4) := by
  have q : ∀ k, k < 108 → kd k = 4 → k + 4 < 108 ∧ kd (k + 4) = 20 ∧ ln (k + 4) = 40 := by decide +kernel
  exact q k h.1 h.2
theorem ia_5_0 {k : Nat} (h : isO 5 k) : isA 8 (k + 1) := by
  have q : ∀ k, k < 108 → kd k = 5 → k + 1 < 108 ∧ kd (k + 1) = 20 ∧ ln (k + 1) = 8 := by decide +kernel
  exact q k h.1 h.2
theorem ia_5_1 {k : Nat} (h : isO 5 k) : isA 8 (k + 2) := by
  have q : ∀ k, k < 108 → kd k = 5 → k + 2 < 108 ∧ kd (k + 2) = 20 ∧ ln (k + 2) = 8 := by decide +kernel
  exact q k h.1 h.2
theorem ia_5_2 {k : Nat} (h : isO 5 k) : isA 8 (k + 3) := by
  have q : ∀ k, k < 108 → kd k = 5 → k + 3 < 108 ∧ kd (k + 3) = 20 ∧ ln (k + 3) = 8 := by decide +kernel
  exact q k h.1 h.2
theorem ia_5_3 {k : Nat} (h : isO 5 k) : isA 8 (k + 4) := by
  have q : ∀ k, k < 108 → kd k = 5 → k + 4 < 108 ∧ kd (k + 4) = 20 ∧ ln (k + 4) = 8 := by decide +kernel
  exact q k h.1 h.2
theorem ia_5_4 {k : Nat} (h : isO 5 k) : isA 32 (k + 5) := by
  have q : ∀ k, k < 108 → kd k = 5 → k + 5 < 108 ∧ kd (k + 5) = 20 ∧ ln (k + 5) = 32 := by decide +kernel
  exact q k h.1 h.2
theorem ia_6_0 {k : Nat} (h : isO 6 k) : isA 60 (k + 1) := by
  have q : ∀ k, k < 108 → kd k = 6 → k + 1 < 108 ∧ kd (k + 1) = 20 ∧ ln (k + 1) = 60 := by decide +kernel
  exact q k h.1 h.2
theorem ia_7_0 {k : Nat} (h : isO 7 k) : isA (ln (k + 1)) (k + 1) := by
  have q : ∀ k, k < 108 → kd k = 7 → k + 1 < 108 ∧ kd (k + 1) = 20 := by decide +kernel
  exact ⟨(q k h.1 h.2).1, (q k h.1 h.2).2, rfl⟩
theorem ia_8_0 {k : Nat} (h : isO 8 k) : isA 8 (k + 1) := by
  have q : ∀ k, k < 108 → kd k = 8 → k + 1 < 108 ∧ kd (k + 1) = 20 ∧ ln (k + 1) = 8 := by decide +kernel
  exact q k h.1 h.2
theorem ia_8_1 {k : Nat} (h : isO 8 k) : isA 8 (k + 2) := by
  have q : ∀ k, k < 108 → kd k = 8 → k + 2 < 108 ∧ kd (k + 2) = 20 ∧ ln (k + 2) = 8 := by decide +kernel
  exact q k h.1 h.2
theorem ia_8_2 {k : Nat} (h : isO 8 k) : isA 8 (k + 3) := by
  have q : ∀ k, k < 108 → kd k = 8 → k + 3 < 108 ∧ kd (k + 3) = 20 ∧ ln (k + 3) = 8 := by decide +kernel
  exact q k h.1 h.2
theorem ia_8_3 {k : Nat} (h : isO 8 k) : isA 8 (k + 4) := by
  have q : ∀ k, k < 108 → kd k = 8 → k + 4 < 108 ∧ kd (k + 4) = 20 ∧ ln (k + 4) = 8 := by decide +kernel
  exact q k h.1 h.2
theorem ck_0 : isO 9 0 := by unfold isO; decide +kernel
theorem ck_2 : isO 7 2 := by unfold isO; decide +kernel
theorem ck_3 : isA 23 3 := by unfold isA; decide +kernel
theorem ck_4 : isO 7 4 := by unfold isO; decide +kernel
theorem ck_5 : isA 63 5 := by unfold isA; decide +kernel
theorem ck_6 : isO 8 6 := by unfold isO; decide +kernel
theorem ck_7 : isA 8 7 := by unfold isA; decide +kernel
theorem ck_8 : isA 8 8 := by unfold isA; decide +kernel
theorem ck_9 : isA 8 9 := by unfold isA; decide +kernel
theorem ck_10 : isA 8 10 := by unfold isA; decide +kernel
theorem ck_11 : isO 5 11 := by unfold isO; decide +kernel
theorem ck_12 : isA 8 12 := by unfold isA; decide +kernel
theorem ck_13 : isA 8 13 := by unfold isA; decide +kernel
theorem ck_14 : isA 8 14 := by unfold isA; decide +kernel
theorem ck_15 : isA 8 15 := by unfold isA; decide +kernel
theorem ck_16 : isA 32 16 := by unfold isA; decide +kernel
theorem ck_17 : isO 2 17 := by unfold isO; decide +kernel
theorem ck_18 : isA 8 18 := by unfold isA; decide +kernel
theorem ck_19 : isA 8 19 := by unfold isA; decide +kernel
theorem ck_20 : isA 8 20 := by unfold isA; decide +kernel
theorem ck_21 : isO 1 21 := by unfold isO; decide +kernel
theorem ck_22 : isA 8 22 := by unfold isA; decide +kernel
theorem ck_23 : isA 8 23 := by unfold isA; decide +kernel
theorem ck_24 : isA 8 24 := by unfold isA; decide +kernel
theorem ck_26 : isO 6 26 := by unfold isO; decide +kernel
theorem ck_27 : isA 60 27 := by unfold isA; decide +kernel
theorem ck_28 : isO 6 28 := by unfold isO; decide +kernel
theorem ck_29 : isA 60 29 := by unfold isA; decide +kernel
theorem ck_30 : isO 6 30 := by unfold isO; decide +kernel
theorem ck_31 : isA 60 31 := by unfold isA; decide +kernel
theorem ck_32 : isO 6 32 := by unfold isO; decide +kernel
theorem ck_33 : isA 60 33 := by unfold isA; decide +kernel
theorem ck_34 : isO 3 34 := by unfold isO; decide +kernel
theorem ck_35 : isA 40 35 := by unfold isA; decide +kernel
theorem ck_36 : isA 40 36 := by unfold isA; decide +kernel
theorem ck_37 : isZ 40 37 := by unfold isZ; decide +kernel
theorem ck_39 : isO 4 39 := by unfold isO; decide +kernel
theorem ck_40 : isA 40 40 := by unfold isA; decide +kernel
theorem ck_41 : isA 40 41 := by unfold isA; decide +kernel
theorem ck_42 : isA 40 42 := by unfold isA; decide +kernel
theorem ck_43 : isA 40 43 := by unfold isA; decide +kernel
theorem ck_44 : isO 4 44 := by unfold isO; decide +kernel
theorem ck_45 : isA 40 45 := by unfold isA; decide +kernel
theorem ck_46 : isA 40 46 := by unfold isA; decide +kernel
theorem ck_47 : isA 40 47 := by unfold isA; decide +kernel
theorem ck_48 : isA 40 48 := by unfold isA; decide +kernel
theorem ck_49 : isO 4 49 := by unfold isO; decide +kernel
theorem ck_50 : isA 40 50 := by unfold isA; decide +kernel
theorem ck_51 : isA 40 51 := by unfold isA; decide +kernel
theorem ck_52 : isA 40 52 := by unfold isA; decide +kernel
theorem ck_53 : isA 40 53 := by unfold isA; decide +kernel
theorem ck_54 : isO 4 54 := by unfold isO; decide +kernel
theorem ck_55 : isA 40 55 := by unfold isA; decide +kernel
theorem ck_56 : isA 40 56 := by unfold isA; decide +kernel
theorem ck_57 : isA 40 57 := by unfold isA; decide +kernel
theorem ck_58 : isA 40 58 := by unfold isA; decide +kernel
theorem ck_59 : isO 4 59 := by unfold isO; decide +kernel
theorem ck_60 : isA 40 60 := by unfold isA; decide +kernel
theorem ck_61 : isA 40 61 := by unfold isA; decide +kernel
theorem ck_62 : isA 40 62 := by unfold isA; decide +kernel
theorem ck_63 : isA 40 63 := by unfold isA; decide +kernel
theorem ck_64 : isO 4 64 := by unfold isO; decide +kernel
theorem ck_65 : isA 40 65 := by unfold isA; decide +kernel
theorem ck_66 : isA 40 66 := by unfold isA; decide +kernel
theorem ck_67 : isA 40 67 := by unfold isA; decide +kernel
theorem ck_68 : isA 40 68 := by unfold isA; decide +kernel
theorem ck_69 : isO 4 69 := by unfold isO; decide +kernel
theorem ck_70 : isA 40 70 := by unfold isA; decide +kernel
theorem ck_71 : isA 40 71 := by unfold isA; decide +kernel
theorem ck_72 : isA 40 72 := by unfold isA; decide +kernel
theorem ck_73 : isA 40 73 := by unfold isA; decide +kernel
theorem ck_74 : isO 4 74 := by unfold isO; decide +kernel
theorem ck_75 : isA 40 75 := by unfold isA; decide +kernel
theorem ck_76 : isA 40 76 := by unfold isA; decide +kernel
theorem ck_77 : isA 40 77 := by unfold isA; decide +kernel
theorem ck_78 : isA 40 78 := by unfold isA; decide +kernel
theorem ck_79 : isO 8 79 := by unfold isO; decide +kernel
theorem ck_80 : isA 8 80 := by unfold isA; decide +kernel
theorem ck_81 : isA 8 81 := by unfold isA; decide +kernel
theorem ck_82 : isA 8 82 := by unfold isA; decide +kernel
theorem ck_83 : isA 8 83 := by unfold isA; decide +kernel
theorem ck_84 : isO 3 84 := by unfold isO; decide +kernel
theorem ck_85 : isA 40 85 := by unfold isA; decide +kernel
theorem ck_86 : isA 40 86 := by unfold isA; decide +kernel
theorem ck_87 : isZ 40 87 := by unfold isZ; decide +kernel
theorem ck_88 : isO 2 88 := by unfold isO; decide +kernel
theorem ck_89 : isA 8 89 := by unfold isA; decide +kernel
theorem ck_90 : isA 8 90 := by unfold isA; decide +kernel
theorem ck_91 : isA 8 91 := by unfold isA; decide +kernel
theorem ck_92 : isO 4 92 := by unfold isO; decide +kernel
theorem ck_93 : isA 40 93 := by unfold isA; decide +kernel
theorem ck_94 : isA 40 94 := by unfold isA; decide +kernel
theorem ck_95 : isA 40 95 := by unfold isA; decide +kernel
theorem ck_96 : isA 40 96 := by unfold isA; decide +kernel
theorem ck_97 : isA 400 97 := by unfold isA; decide +kernel
theorem ck_98 : isA 9 98 := by unfold isA; decide +kernel
theorem ck_100 : isO 0 100 := by unfold isO; decide +kernel
theorem ck_101 : isO 0 101 := by unfold isO; decide +kernel
theorem ck_102 : isO 0 102 := by unfold isO; decide +kernel
theorem ck_103 : isO 0 103 := by unfold isO; decide +kernel
theorem ck_104 : isO 0 104 := by unfold isO; decide +kernel
theorem ck_105 : isO 0 105 := by unfold isO; decide +kernel
theorem ck_106 : isO 0 106 := by unfold isO; decide +kernel
theorem ck_107 : isO 0 107 := by unfold isO; decide +kernel
theorem ir_22 {i : Int32} (h : vp_in i 2) : isO 7 (2 + 2 * i.toNatClampNeg) := by
  have q : ∀ j, j < 2 → isO 7 (2 + 2 * j) := by unfold isO; decide +kernel
  exact q _ (Nat.not_le.mp fun z => h (Or.inr z))
theorem ir_23 {i : Int32} (h : vp_in i 4) : isO 6 (26 + 2 * i.toNatClampNeg) := by
  have q : ∀ j, j < 4 → isO 6 (26 + 2 * j) := by unfold isO; decide +kernel
  exact q _ (Nat.not_le.mp fun z => h (Or.inr z))
theorem ir_24 {i : Int32} (h : vp_in i 8) : isO 4 (39 + 5 * i.toNatClampNeg) := by
  have q : ∀ j, j < 8 → isO 4 (39 + 5 * j) := by unfold isO; decide +kernel
  exact q _ (Nat.not_le.mp fun z => h (Or.inr z))
theorem ir_25 {i : Int32} (h : vp_in i 8) : isO 0 (100 + 1 * i.toNatClampNeg) := by
  have q : ∀ j, j < 8 → isO 0 (100 + 1 * j) := by unfold isO; decide +kernel
  exact q _ (Nat.not_le.mp fun z => h (Or.inr z))
def nwF : List (String × Nat × String × String × String) := [("WellTalk", 112, "WellTalk$Text", "length", "I"), ("WellTalk", 116, "WellTalk$Text", "fault", "I"), ("WellTalk", 119, "WellTalk$Wells", "count", "I"), ("WellTalk", 122, "WellTalk$Wells", "stone", "[I"), ("WellTalk", 125, "WellTalk$Wells", "height", "[I"), ("WellTalk", 128, "WellTalk$Wells", "down", "[I"), ("WellTalk", 131, "WellTalk$Wells", "up", "[I"), ("WellTalk", 134, "WellTalk$Sayings", "count", "I"), ("WellTalk", 135, "WellTalk$Sayings", "hour", "[I"), ("WellTalk", 138, "WellTalk$Sayings", "well", "[I"), ("WellTalk", 141, "WellTalk$Sayings", "bucket", "[I"), ("WellTalk", 144, "WellTalk$Sayings", "size", "[I"), ("WellTalk", 160, "WellTalk$Events", "count", "I"), ("WellTalk", 176, "WellTalk$Path", "left", "[I"), ("WellTalk", 179, "WellTalk$Path", "well", "[I"), ("WellTalk", 180, "WellTalk$Path", "first", "[I"), ("WellTalk", 183, "WellTalk$Path", "heard", "[I"), ("WellTalk", 205, "WellTalk$BestCoin", "hour", "I"), ("WellTalk", 207, "WellTalk$BestCoin", "well", "I"), ("WellTalk", 209, "WellTalk$BestCoin", "many", "I"), ("WellTalk", 231, "WellTalk$Draws", "count", "I"), ("WellTalk", 270, "WellTalk$Wells", "last", "I"), ("WellTalk", 276, "WellTalk$Sheet", "size", "I"), ("WellTalk", 286, "WellTalk$Sheet", "items", "[I"), ("WellTalk", 289, "WellTalk$Sheet", "form", "I"), ("WellTalk", 398, "WellTalk$Hours", "coins", "[I"), ("WellTalk", 401, "WellTalk$Path", "heardAt", "I"), ("WellTalk", 404, "WellTalk$Events", "kind", "[I"), ("WellTalk", 407, "WellTalk$Draws", "saying", "[I"), ("WellTalk", 409, "WellTalk$Draws", "hour", "[I"), ("WellTalk", 410, "WellTalk$Draws", "letters", "[I"), ("WellTalk$Hours", 22, "WellTalk$Events", "count", "I"), ("WellTalk$Hours", 28, "WellTalk$Events", "hour", "[I"), ("WellTalk$Hours", 35, "WellTalk$Events", "kind", "[I"), ("WellTalk$Hours", 38, "WellTalk$Events", "well", "[I"), ("WellTalk$Path", 34, "WellTalk$Sayings", "size", "[I"), ("WellTalk$Path", 45, "WellTalk$Sayings", "hour", "[I"), ("WellTalk$Path", 48, "WellTalk$Hours", "covered", "[I"), ("WellTalk$Path", 70, "WellTalk$Wells", "stone", "[I"), ("WellTalk$Path", 77, "WellTalk$Wells", "count", "I"), ("WellTalk$Path", 80, "WellTalk$Hours", "dry", "[Z"), ("WellTalk$Path", 84, "WellTalk$Wells", "last", "I"), ("WellTalk$Path", 87, "WellTalk$Hours", "coins", "[I"), ("WellTalk$Path", 90, "WellTalk$Wells", "up", "[I"), ("WellTalk$Path", 93, "WellTalk$Wells", "down", "[I"), ("WellTalk$Sayings", 31, "WellTalk$Text", "length", "I"), ("WellTalk$Wells", 31, "WellTalk$Text", "length", "I")]
def nwM : List (String × Nat × MethodName) := [("WellTalk", 20, yX8_init), ("WellTalk", 27, yX5_init), ("WellTalk", 34, yX2_init), ("WellTalk", 41, yX1_init), ("WellTalk", 48, yX6_init), ("WellTalk", 55, yX3_init), ("WellTalk", 62, yX4_init), ("WellTalk", 93, yX0_init), ("WellTalk$Hours", 31, yX9_in), ("WellTalk$Path", 96, yX9_in), ("WellTalk$Sayings", 61, yX9_in), ("WellTalk$Sheet", 28, yX9_in), ("WellTalk$Text", 28, yX9_in), ("WellTalk$Wells", 53, yX9_in)]
def kst : List (String × Nat × String × Nat) := [("WellTalk$Sayings", 47, ";", 0), ("WellTalk$Sayings", 53, "abcdefghijklmnopqrstuvwx", 1), ("WellTalk$Sayings", 55, "01234567", 2), ("WellTalk$Sayings", 57, "iw", 3), ("WellTalk$Sayings", 59, "abcdefgh", 4), ("WellTalk$Wells", 43, "gcs", 5), ("WellTalk$Wells", 49, "0123456789", 6), ("WellTalk$Wells", 51, ";", 0)]
def lenS : List Nat := [1, 24, 8, 2, 8, 3, 10]
def bytS : List (List Int32) := [[59], [97, 98, 99, 100, 101, 102, 103, 104, 105, 106, 107, 108, 109, 110, 111, 112, 113, 114, 115, 116, 117, 118, 119, 120], [48, 49, 50, 51, 52, 53, 54, 55], [105, 119], [97, 98, 99, 100, 101, 102, 103, 104], [103, 99, 115], [48, 49, 50, 51, 52, 53, 54, 55, 56, 57]]
def uT (g : GG) : List (ClassId × FieldType) := [(g.2.1 0, .int), (g.2.1 1, .boolean), (g.2.1 2, .object RX7), (g.2.1 3, .object RX6), (g.2.1 4, .object RX4), (g.2.1 5, .object RX0)]
/-- what stands in the machine's tables: the classes, the nest mates' links, the String constants -/
def KK (g : GG) (U : State) : Prop := va_K g.2.2.1 vwCl (uT g) U ∧ (∀ q ∈ nwF, va_Nw (.fieldLinkNest q.1 q.2.1 q.2.2.1 q.2.2.2.1 q.2.2.2.2 "WellTalk") U) ∧ (∀ q ∈ nwM, va_Nw (.methodLinkNest q.1 q.2.1 q.2.2 "WellTalk") U) ∧ (∀ q ∈ kst, vk_R q.1 q.2.1 q.2.2.1 (g.2.2.2.1 q.2.2.2) U)
theorem KK.warm {g : GG} {s U : State} (hW : s.WarmedH U.vm) (h : KK g s) : KK g U := ⟨va_K.moved hW.alike h.1, fun q hq => va_Nw.warmF hW (h.2.1 q hq), fun q hq => va_Nw.warmM hW (h.2.2.1 q hq), fun q hq => vk_R.warm hW (h.2.2.2 q hq)⟩
theorem KK.same {g : GG} {s U : State} (hv : s.vm = U.vm) (h : KK g s) : KK g U := ⟨va_K.moved (by rw [hv]; exact Vm.Alike.refl _) h.1, fun q hq => va_Nw.same rfl hv (h.2.1 q hq), fun q hq => va_Nw.same rfl hv (h.2.2.1 q hq), fun q hq => vk_R.same hv.symm (h.2.2.2 q hq)⟩
def AA (g : GG) (sz : Nat) : Nat → Prop := fun q => (∃ k, k < 131 ∧ q = g.1 k) ∨ sz ≤ q
def SS (g : GG) (A : Nat → Prop) (U : State) (H : Heap) : Prop := vk_S 7 lenS bytS g.2.2.2.1 g.2.2.2.2 A U H ∧ va_Z "java/lang/String" "COMPACT_STRINGS" "Z" (.int 1) A U H
def inj (g : GG) : Prop := ∀ i j, i < 131 → j < 131 → g.1 i = g.1 j → i = j
/-- a method's start -/
def PC (g : GG) (mc mm : Mem) (sz : Nat) (U : State) : Prop := U.heap.size = sz ∧ va_P g.2.2.1 vwCl (wL g mc mm) U.heap ∧ KK g U ∧ inj g ∧ SS g (AA g sz) U U.heap
theorem wL_D {g : GG} {mc mm : Mem} {A : Nat → Prop} (h : inj g) (hA : ∀ k, k < 131 → A (g.1 k)) : va_D A (wL g mc mm) := by
  refine ⟨fun i j x y hi hj hxy => ?_, fun k q hk => ?_⟩
  · have a := wL_at hi
    have b := wL_at hj
    exact h i j a.1 b.1 (by rw [← a.2, ← b.2]; exact hxy)
  · have a := wL_at hk
    rw [a.2]
    exact hA k a.1
