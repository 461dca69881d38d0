theorem k_arr {args : Array Value} {s : State} {ty : FieldType} (h : (Cond.arrayClass ty).before args s = true) : ∃ cA, ArrOfT s cA ty ∧ s.vm.findClass ("[" ++ ty.toString) = some cA := by
  obtain ⟨cA, kA, comp, h1, h2, h3⟩ := Cond.arrayClass_spec h
  exact ⟨cA, fun n z => ⟨(fun k h => (by cases h)), kA, h2, comp, h3⟩, h1⟩
theorem k_arrO {args : Array Value} {s : State} {C : String} (h : (Cond.arrayOver (.object C)).before args s = true) : ∃ cA, ArrOfT s cA (.object C) ∧ va_RA s cA (.object C) := by
  obtain ⟨comp, c, k, h1, h2, h3, h4, h5⟩ := Cond.arrayOver_spec h
  exact ⟨c, fun n z => ⟨(fun k h => (by cases h)), k, h3, comp, h4⟩, k, comp, h3, h4, h1, h5⟩
def tmS : Nat → Term := fun i => match i with
  | 0 => .string "WellTalk$Sayings" 47
  | 1 => .string "WellTalk$Sayings" 53
  | 2 => .string "WellTalk$Sayings" 55
  | 3 => .string "WellTalk$Sayings" 57
  | 4 => .string "WellTalk$Sayings" 59
  | 5 => .string "WellTalk$Wells" 43
  | _ => .string "WellTalk$Wells" 49
theorem kS_ex : ∀ i, i < 7 → Cond.exactly (tmS i) "java/lang/String" ∈ flatC (Cond.and given_1 narrow_1) := by decide +kernel
theorem kS_co : ∀ i, i < 7 → Cond.eq (.field (tmS i) "java/lang/String" "coder" "B") (.int 0) ∈ flatC (Cond.and given_1 narrow_1) := by decide +kernel
theorem kS_ar : ∀ i, i < 7 → Cond.arrayOf (.field (tmS i) "java/lang/String" "value" "[B") .byte ∈ flatC (Cond.and given_1 narrow_1) := by decide +kernel
theorem kS_le : ∀ i, i < 7 → Cond.eq (.length (.field (tmS i) "java/lang/String" "value" "[B")) (.int (Int32.ofNat (lenS.getD i 0))) ∈ flatC (Cond.and given_1 narrow_1) := by decide +kernel
theorem kS_el : ∀ i, i < 7 → ∀ j, j < lenS.getD i 0 → Cond.eq (.elem (.field (tmS i) "java/lang/String" "value" "[B") (.int (Int32.ofNat j))) (.int ((bytS.getD i []).getD j 0)) ∈ flatC (Cond.and given_1 narrow_1) := by decide +kernel
theorem kS_ne : ∀ i, i < 7 → ∀ j, j < 7 → i ≠ j → Cond.not (Cond.eq (tmS i) (tmS j)) ∈ flatC (Cond.and given_1 narrow_1) ∨ Cond.not (Cond.eq (tmS j) (tmS i)) ∈ flatC (Cond.and given_1 narrow_1) := by decide +kernel
theorem kS_eq : Cond.eq (.string "WellTalk$Wells" 51) (.string "WellTalk$Sayings" 47) ∈ flatC (Cond.and given_1 narrow_1) := by decide +kernel
theorem kS_cp : Cond.eq (.static "java/lang/String" "COMPACT_STRINGS" "Z") (.int 1) ∈ flatC (Cond.and given_1 narrow_1) := by decide +kernel
theorem kS_ln : ∀ i, i < 7 → lenS.getD i 0 < 2 ^ 31 := by decide +kernel
theorem kS_ls : Cond.laysStatic "java/lang/String" "COMPACT_STRINGS" "Z" ∈ lw_tbl := List.mem_of_getElem? (i := 454) (by decide +kernel)
theorem kS_in : Cond.initialized "java/lang/String" ∈ lw_tbl := List.mem_of_getElem? (i := 96) (by decide +kernel)
set_option maxHeartbeats 4000000 in
theorem k_start {p : Program} {s : State} {m : MethodId} {meth : Method} {c : Code} {b L : Nat} {xs : Nat → Int32} (C0 : lw_At p s m meth c b L xs) : ∃ g2 : (Nat → ClassId) × va_G × (Nat → Nat) × (Nat → Nat), ∀ ad : Nat → Nat, KA (ad, g2) s ∧ SS (ad, g2) (fun q => s.heap.size ≤ q) s s.heap := by
  obtain ⟨hx, hb, hr, hml, hown, hts, hX, hbl, hlk, hgv⟩ := C0
  have htw : ∀ w ∈ wsL_law, w.before #[Value.ref b] s = true := fun w h => hts w (wsL_in w h)
  have hfl := flat_of_before _ hgv
  have hA : ∀ a : Nat, a < s.heap.size → ¬ (fun q => s.heap.size ≤ q) a := fun a h z => absurd h (Nat.not_lt.mpr z)
  obtain ⟨d0, i0, K0⟩ := u_known (C := RX0) (T := TX0) (N := 3) (n := 3) htw inlX0 (htw _ wd_3_5)
  obtain ⟨d1, i1, K1⟩ := u_known (C := RX1) (T := TX1) (N := 4) (n := 4) htw inlX1 (htw _ wd_2_5)
  obtain ⟨d2, i2, K2⟩ := u_known (C := RX2) (T := TX2) (N := 4) (n := 4) htw inlX2 (htw _ wd_2_1)
  obtain ⟨d3, i3, K3⟩ := u_known (C := RX3) (T := TX3) (N := 3) (n := 3) htw inlX3 (htw _ wd_2_13)
  obtain ⟨d4, i4, K4⟩ := u_known (C := RX4) (T := TX4) (N := 10) (n := 10) htw inlX4 (htw _ wd_2_17)
  obtain ⟨d5, i5, K5⟩ := u_known (C := RX5) (T := TX5) (N := 6) (n := 6) htw inlX5 (htw _ wd_1_21)
  obtain ⟨d6, i6, K6⟩ := u_known (C := RX6) (T := TX6) (N := 3) (n := 3) htw inlX6 (htw _ wd_2_9)
  obtain ⟨d7, i7, K7⟩ := u_known (C := RX7) (T := TX7) (N := 3) (n := 3) htw inlX7 (htw _ wd_1_13)
  obtain ⟨d8, i8, K8⟩ := u_known (C := RX8) (T := TX8) (N := 6) (n := 6) htw inlX8 (htw _ wd_1_17)
  obtain ⟨d9, i9, K9⟩ := u_known (C := RX9) (T := TX9) (N := 18) (n := 18) htw inlX9 (htw _ wd_1_1)
  obtain ⟨d10, i10, K10⟩ := u_known (C := RX10) (T := TX10) (N := 31) (n := 31) htw inlX10 (htw _ wd_1_4)
  obtain ⟨y0, a0, b0⟩ := k_arr (htw _ wd_3_1)
  obtain ⟨y1, a1, b1⟩ := k_arr (htw _ wd_5_9)
  obtain ⟨y2, a2, b2⟩ := k_arrO (hts _ (ao_in (Cond.arrayOver (.object RX7)) (List.mem_of_getElem? (i := 0) rfl)))
  obtain ⟨y3, a3, b3⟩ := k_arrO (hts _ (ao_in (Cond.arrayOver (.object RX6)) (List.mem_of_getElem? (i := 1) rfl)))
  obtain ⟨y4, a4, b4⟩ := k_arrO (hts _ (ao_in (Cond.arrayOver (.object RX4)) (List.mem_of_getElem? (i := 2) rfl)))
  obtain ⟨y5, a5, b5⟩ := k_arrO (hts _ (ao_in (Cond.arrayOver (.object RX0)) (List.mem_of_getElem? (i := 3) rfl)))
  obtain ⟨adK, adV, hV, hE⟩ := vk_Sof (N := 7) (tm := tmS) (len := lenS) (byt := bytS) (A := fun q => s.heap.size ≤ q) kS_ln (fun i hi => hfl _ (kS_ex i hi)) (fun i hi => hfl _ (kS_co i hi)) (fun i hi => hfl _ (kS_ar i hi)) (fun i hi => hfl _ (kS_le i hi)) (fun i hi j hj => hfl _ (kS_el i hi j hj)) (fun i j hi hj hij => (kS_ne i hi j hj hij).imp (hfl _) (hfl _)) hA
  refine ⟨(fun i => match i with | 0 => y0 | 1 => y1 | 2 => y2 | 3 => y3 | 4 => y4 | _ => y5, (fun i => match i with | 0 => d0 | 1 => d1 | 2 => d2 | 3 => d3 | 4 => d4 | 5 => d5 | 6 => d6 | 7 => d7 | 8 => d8 | 9 => d9 | _ => d10, fun i => match i with | 0 => i0 | 1 => i1 | 2 => i2 | 3 => i3 | 4 => i4 | 5 => i5 | 6 => i6 | 7 => i7 | 8 => i8 | 9 => i9 | _ => i10), adK, adV), fun ad => ⟨⟨⟨⟨?_, ?_⟩, ?_, ?_, ?_⟩, ?_⟩, hV, ?_⟩⟩
  · intro k q hq
    match k, hq with
    | 0, hq => cases hq; exact K0
    | 1, hq => cases hq; exact K1
    | 2, hq => cases hq; exact K2
    | 3, hq => cases hq; exact K3
    | 4, hq => cases hq; exact K4
    | 5, hq => cases hq; exact K5
    | 6, hq => cases hq; exact K6
    | 7, hq => cases hq; exact K7
    | 8, hq => cases hq; exact K8
    | 9, hq => cases hq; exact K9
    | 10, hq => cases hq; exact K10
    | k + 11, hq => cases hq
  · intro k q hq
    match k, hq with
    | 0, hq => cases hq; exact ⟨a0, b0⟩
    | 1, hq => cases hq; exact ⟨a1, b1⟩
    | 2, hq => cases hq; exact ⟨a2, b2⟩
    | 3, hq => cases hq; exact ⟨a3, b3⟩
    | 4, hq => cases hq; exact ⟨a4, b4⟩
    | 5, hq => cases hq; exact ⟨a5, b5⟩
    | k + 6, hq => cases hq
  · exact fun q hq => va_Nw.of rfl (hts _ (nwF_in q hq))
  · exact fun q hq => va_Nw.of rfl (hts _ (nwM_in q hq))
  · intro q hq
    refine vk_R.of (hts _ (kst_in q hq)) ?_
    simp only [kst, List.mem_cons, List.not_mem_nil, or_false] at hq
    rcases hq with h | h | h | h | h | h | h | h <;> subst h
    · exact hE 0 (by decide)
    · exact hE 1 (by decide)
    · exact hE 2 (by decide)
    · exact hE 3 (by decide)
    · exact hE 4 (by decide)
    · exact hE 5 (by decide)
    · exact hE 6 (by decide)
    · exact va_eqv (hfl _ kS_eq) (hE 0 (by decide))
  · exact ⟨va_AO.of (hts _ (ao_in _ (List.mem_of_getElem? (i := 0) rfl))), va_AO.of (hts _ (ao_in _ (List.mem_of_getElem? (i := 1) rfl))), va_AO.of (hts _ (ao_in _ (List.mem_of_getElem? (i := 2) rfl))), va_AO.of (hts _ (ao_in _ (List.mem_of_getElem? (i := 3) rfl)))⟩
  · exact va_Zof (hts _ kS_ls) (hts _ kS_in) (va_eqi (hfl _ kS_cp)) hA
