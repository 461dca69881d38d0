/-! PURE FROM HERE: the functions of the class and of the reference, no machine. First small facts. -/
theorem i0le (x : Int32) : ¬ x < 0 ↔ 0 ≤ x := by rw [Int32.lt_iff_toInt_lt, Int32.le_iff_toInt_le]; omega
theorem f9_in (x b : Int32) : F9_in x b = some (if 0 ≤ x ∧ x < b then 1 else 0) := by
  unfold F9_in F9_in_b13
  by_cases h1 : x < 0
  · have h2 : ¬ (0 ≤ x ∧ x < b) := fun h => (i0le x).mpr h.1 h1
    rw [if_pos h1, if_neg h2]
  · by_cases h3 : b ≤ x
    · have h2 : ¬ (0 ≤ x ∧ x < b) := fun h => by
        have := h.2
        rw [Int32.lt_iff_toInt_lt] at this
        rw [Int32.le_iff_toInt_le] at h3
        omega
      rw [if_neg h1, if_pos h3, if_neg h2]
    · have h2 : 0 ≤ x ∧ x < b := ⟨(i0le x).mp h1, by
        rw [Int32.le_iff_toInt_le] at h3
        rw [Int32.lt_iff_toInt_lt]
        omega⟩
      rw [if_neg h1, if_neg h3, if_pos h2]
theorem bb {α : Type} {c : Prop} [Decidable c] (A B : Option α) : (some (if c then (1 : Int32) else 0)).bind (fun q => if q = (0 : Int32) then A else B) = if c then B else A := by
  by_cases h : c
  · rw [if_pos h, if_pos h]; rfl
  · rw [if_neg h, if_neg h]; rfl
theorem f9_b {α : Type} (x b : Int32) (A B : Option α) : (F9_in x b).bind (fun q => if q = (0 : Int32) then A else B) = if 0 ≤ x ∧ x < b then B else A := by rw [f9_in, bb]
theorem lgc_lt (x y : Int64) : lg_cmp x y < 0 ↔ x < y := by
  unfold lg_cmp
  have e1 : (y < x) ↔ y.toInt < x.toInt := Int64.lt_iff_toInt_lt
  have e2 : (x < y) ↔ x.toInt < y.toInt := Int64.lt_iff_toInt_lt
  by_cases h : x > y
  · rw [if_pos h]
    refine ⟨fun z => absurd z (by decide), fun z => ?_⟩
    have := e1.mp h
    have := e2.mp z
    omega
  · rw [if_neg h]
    by_cases h2 : x = y
    · rw [if_pos h2]
      refine ⟨fun z => absurd z (by decide), fun z => ?_⟩
      subst h2
      have := e2.mp z
      omega
    · rw [if_neg h2]
      refine ⟨fun _ => e2.mpr ?_, fun _ => by decide⟩
      have a : ¬ y.toInt < x.toInt := fun z => h (e1.mpr z)
      have b : x.toInt ≠ y.toInt := fun z => h2 (Int64.toInt_inj.mp z)
      omega
theorem lgc_gt (x y : Int64) : 0 < lg_cmp x y ↔ y < x := by
  unfold lg_cmp
  by_cases h : x > y
  · rw [if_pos h]
    exact ⟨fun _ => h, fun _ => by decide⟩
  · rw [if_neg h]
    by_cases h2 : x = y
    · rw [if_pos h2]
      exact ⟨fun z => absurd z (by decide), fun z => absurd z h⟩
    · rw [if_neg h2]
      exact ⟨fun z => absurd z (by decide), fun z => absurd z h⟩
theorem lgc_le (x y : Int64) : lg_cmp x y ≤ 0 ↔ x ≤ y := by
  have h := lgc_gt x y
  have e1 : (y < x) ↔ y.toInt < x.toInt := Int64.lt_iff_toInt_lt
  have e2 : (x ≤ y) ↔ x.toInt ≤ y.toInt := Int64.le_iff_toInt_le
  have e3 : (0 < lg_cmp x y) ↔ (0 : Int32).toInt < (lg_cmp x y).toInt := Int32.lt_iff_toInt_lt
  have e4 : (lg_cmp x y ≤ 0) ↔ (lg_cmp x y).toInt ≤ (0 : Int32).toInt := Int32.le_iff_toInt_le
  rw [e1, e3] at h
  rw [e2, e4]
  omega
theorem f10_in (v0 v2 v4 : Int64) : F10_in v0 v2 v4 = some (if v2 ≤ v0 ∧ v0 ≤ v4 then 1 else 0) := by
  unfold F10_in F10_in_b17
  have e1 : (v0 < v2) ↔ v0.toInt < v2.toInt := Int64.lt_iff_toInt_lt
  have e2 : (v2 ≤ v0) ↔ v2.toInt ≤ v0.toInt := Int64.le_iff_toInt_le
  have e3 : (v4 < v0) ↔ v4.toInt < v0.toInt := Int64.lt_iff_toInt_lt
  have e4 : (v0 ≤ v4) ↔ v0.toInt ≤ v4.toInt := Int64.le_iff_toInt_le
  simp only [lgc_lt, lgc_gt]
  by_cases h1 : v0 < v2
  · rw [if_pos h1, if_neg]
    rintro ⟨a, -⟩
    have := e1.mp h1
    have := e2.mp a
    omega
  · rw [if_neg h1]
    by_cases h2 : v4 < v0
    · rw [if_pos h2, if_neg]
      rintro ⟨-, a⟩
      have := e3.mp h2
      have := e4.mp a
      omega
    · rw [if_neg h2, if_pos]
      refine ⟨e2.mpr ?_, e4.mpr ?_⟩
      · have : ¬ v0.toInt < v2.toInt := fun z => h1 (e1.mpr z)
        omega
      · have : ¬ v4.toInt < v0.toInt := fun z => h2 (e3.mpr z)
        omega
theorem in64 (x b : Int32) (h : Int64) (hh : h.toInt + 1 = b.toInt) : ((0 : Int64) ≤ x.toInt64 ∧ x.toInt64 ≤ h) ↔ (0 ≤ x ∧ x < b) := by
  rw [Int64.le_iff_toInt_le, Int64.le_iff_toInt_le, Int32.le_iff_toInt_le, Int32.lt_iff_toInt_lt, Int32.toInt_toInt64]
  have : (0 : Int64).toInt = 0 := by decide
  have : (0 : Int32).toInt = 0 := by decide
  omega
theorem f10_b {α : Type} {x : Int32} {h : Int64} (b : Int32) (hh : h.toInt + 1 = b.toInt) (A B : Option α) : (F10_in x.toInt64 (0 : Int64) h).bind (fun q => if q = (0 : Int32) then A else B) = if 0 ≤ x ∧ x < b then B else A := by
  rw [f10_in, bb]
  simp only [in64 x b h hh]
theorem bz01 {c : Prop} [Decidable c] : (if c then (1 : Int32) else 0) = 0 ∨ (if c then (1 : Int32) else 0) = 1 := by
  by_cases h : c
  · rw [if_pos h]; exact Or.inr rfl
  · rw [if_neg h]; exact Or.inl rfl
theorem f10_z (x b : Int32) (h : Int64) (hh : h.toInt + 1 = b.toInt) : (F10_in x.toInt64 (0 : Int64) h).bind (fun q => bz q (some q)) = some (if 0 ≤ x ∧ x < b then 1 else 0) := by
  rw [f10_in]
  simp only [in64 x b h hh]
  exact bz_in bz01
theorem f10_isTwo (x : Int32) : F10_isTwo x = some (if 0 ≤ x ∧ x < 2 then 1 else 0) := f10_z x 2 1 (by decide)
theorem f10_isSheet (x : Int32) : F10_isSheet x = some (if 0 ≤ x ∧ x < 4 then 1 else 0) := f10_z x 4 3 (by decide)
theorem f10_isHour (x : Int32) : F10_isHour x = some (if 0 ≤ x ∧ x < 40 then 1 else 0) := f10_z x 40 39 (by decide)
theorem f10_isEight (x : Int32) : F10_isEight x = some (if 0 ≤ x ∧ x < 8 then 1 else 0) := f10_z x 8 7 (by decide)
/-- an int from 0 on, below b, is a number -/
theorem i_of {x : Int32} {b : Nat} (hb : b < 2 ^ 31) (h : 0 ≤ x ∧ x < nI b) : ∃ k, k < b ∧ x = nI k := by
  obtain ⟨h0, h1⟩ := h
  have hn : ¬ x < 0 := (i0le x).mpr h0
  obtain ⟨k, hk, rfl⟩ := nI_of hn
  refine ⟨k, ?_, rfl⟩
  rw [Int32.lt_iff_toInt_lt, nI_toInt hk, nI_toInt hb] at h1
  omega
theorem of_i {k b : Nat} (hk : k < b) (hb : b < 2 ^ 31) : 0 ≤ nI k ∧ nI k < nI b := ⟨nI_pos' (by omega), nI_lt hk hb⟩
theorem ckI {α : Type} {k n : Nat} {A : Option α} (h : k < n) (hn : n < 2 ^ 31) : ck (nI k) n A = A := ck_in (vp_in_nI h hn)
theorem mset_k (m : Mem) (k i : Nat) (v : Int32) : mset m k i v k = upd (m k) i v := if_pos rfl
theorem mset_n {m : Mem} {k i a : Nat} {v : Int32} (h : a ≠ k) : mset m k i v a = m a := if_neg h
theorem mset_s (m : Mem) (k i : Nat) (v : Int32) : mset m k i v k i = v := by rw [mset_k]; exact pk_us
theorem mset_o {m : Mem} {k i j : Nat} {v : Int32} (h : j ≠ i) : mset m k i v k j = m k j := by rw [mset_k]; exact pk_un h
/-- what was drawn -/
def RD (mc mm : Mem) : Prop := ∃ nd : Nat, nd ≤ 8 ∧ mc 21 3 = nI nd ∧ mm 0 26 = nI nd ∧ ∀ i, i < nd → (mc 22 i = mm 20 (3 * i) ∧ mc 23 i = mm 20 (3 * i + 1) ∧ mc 24 i = mm 20 (3 * i + 2)) ∧ (∃ a, a < 40 ∧ mc 22 i = nI a) ∧ (∃ a, a < 8 ∧ mc 23 i = nI a) ∧ ∃ a, a < 5 ∧ mc 24 i = nI a
theorem RD.congr {mc mm mc' mm' : Mem} (h : RD mc mm) (h1 : mc' 21 3 = mc 21 3) (h2 : mc' 22 = mc 22) (h3 : mc' 23 = mc 23) (h4 : mc' 24 = mc 24) (h5 : mm' 0 26 = mm 0 26) (h6 : mm' 20 = mm 20) : RD mc' mm' := by
  unfold RD
  rw [h1, h2, h3, h4, h5, h6]
  exact h
theorem op_forget {mc mm : Mem} (h : RD mc mm) : ∃ (r : Int32) (mc' mm' : Mem), F9_forget mc = some (r, mc') ∧ F10_forget mm = some (r, mm') ∧ RD mc' mm' ∧ (∀ k, k ≠ 21 → mc' k = mc k) ∧ (∀ j, j ≠ 0 → mm' j = mm j) ∧ ∀ i, i ≠ 26 → mm' 0 i = mm 0 i := by
  obtain ⟨nd, h1, h2, h3, h4⟩ := h
  refine ⟨mc 21 3, mset mc 21 3 0, mset mm 0 26 0, rfl, by rw [h2, ← h3]; rfl, ⟨0, by omega, by rw [mset_s]; rfl, by rw [mset_s]; rfl, fun i hi => by omega⟩, fun k hk => mset_n hk, fun j hj => mset_n hj, fun i hi => mset_o hi⟩
