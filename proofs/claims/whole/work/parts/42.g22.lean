theorem dX10_wellBy_0 : decode cX10_wellBy 0 = .ok (.iload_n 2, 1) := by decide +kernel
theorem dX10_wellBy_1 : decode cX10_wellBy 1 = .ok (.iconst 2, 1) := by decide +kernel
theorem dX10_wellBy_2 : decode cX10_wellBy 2 = .ok (.if_icmp .ge 16, 3) := by decide +kernel
theorem dX10_wellBy_5 : decode cX10_wellBy 5 = .ok (.aload_n 0, 1) := by decide +kernel
theorem dX10_wellBy_6 : decode cX10_wellBy 6 = .ok (.getfield 28, 3) := by decide +kernel
theorem dX10_wellBy_9 : decode cX10_wellBy 9 = .ok (.iconst 2, 1) := by decide +kernel
theorem dX10_wellBy_10 : decode cX10_wellBy 10 = .ok (.iload_n 1, 1) := by decide +kernel
theorem dX10_wellBy_11 : decode cX10_wellBy 11 = .ok (.imul, 1) := by decide +kernel
theorem dX10_wellBy_12 : decode cX10_wellBy 12 = .ok (.iload_n 2, 1) := by decide +kernel
theorem dX10_wellBy_13 : decode cX10_wellBy 13 = .ok (.iadd, 1) := by decide +kernel
theorem dX10_wellBy_14 : decode cX10_wellBy 14 = .ok (.iaload, 1) := by decide +kernel
theorem dX10_wellBy_15 : decode cX10_wellBy 15 = .ok (.goto 21, 3) := by decide +kernel
theorem dX10_wellBy_18 : decode cX10_wellBy 18 = .ok (.iload_n 2, 1) := by decide +kernel
theorem dX10_wellBy_19 : decode cX10_wellBy 19 = .ok (.iconst 2, 1) := by decide +kernel
theorem dX10_wellBy_20 : decode cX10_wellBy 20 = .ok (.if_icmp .ne 11, 3) := by decide +kernel
theorem dX10_wellBy_23 : decode cX10_wellBy 23 = .ok (.aload_n 0, 1) := by decide +kernel
theorem dX10_wellBy_24 : decode cX10_wellBy 24 = .ok (.iload_n 1, 1) := by decide +kernel
theorem dX10_wellBy_25 : decode cX10_wellBy 25 = .ok (.invokevirtual 154, 3) := by decide +kernel
theorem dX10_wellBy_28 : decode cX10_wellBy 28 = .ok (.goto 8, 3) := by decide +kernel
theorem dX10_wellBy_31 : decode cX10_wellBy 31 = .ok (.aload_n 0, 1) := by decide +kernel
theorem dX10_wellBy_32 : decode cX10_wellBy 32 = .ok (.iload_n 1, 1) := by decide +kernel
theorem dX10_wellBy_33 : decode cX10_wellBy 33 = .ok (.invokevirtual 157, 3) := by decide +kernel
theorem dX10_wellBy_36 : decode cX10_wellBy 36 = .ok (.ireturn, 1) := by decide +kernel
noncomputable def F10_wellBy (v1 : Int32) (v2 : Int32) (mm : Mem) : Option (Int32) :=
  (if (2 : Int32) ≤ v2 then (if v2 = (2 : Int32) then ((F10_down v1 mm).bind (fun q5 => (some q5))) else ((F10_up v1 mm).bind (fun q4 => (some q4)))) else (ck (((2 : Int32) * v1) + v2) 16 (some (mm 7 (((2 : Int32) * v1) + v2).toNatClampNeg))))
set_option maxHeartbeats 4000000 in
set_option maxRecDepth 100000 in
theorem kX10_wellBy (l : Launch) (g : GG) (v1 : Int32) (v2 : Int32) (mc mm : Mem) (q : Int32) (hF : F10_wellBy v1 v2 mm = some q) : KI l yX10_wellBy cX10_wellBy 3 .int 1 24 g [.ref (g.1 108), .int v1, .int v2] mc mm q (mc, mm) := by
  intro sz
  refine x_start (Qc := fun z => QI g z q (mc, mm)) (by decide +kernel) (Nat.le_of_ble_eq_true rfl) ?_ sz
  intro p e s m args below meth c ls Z hr hlk hP hl
  have hx := Z.1.1
  have hb := Z.1.2.1
  have hown := Z.1.2.2.2.1
  have hts := Z.1.2.2.2.2
  have hS : va_S (AA g s.heap.size) s.heap s.heap [] := va_S.rf
  have hl : lv_has ls 3 [(0, .ref (g.1 108)), (1, .int v1), (2, .int v2)] := hl
  unfold F10_wellBy at hF
  refine lv_iload_n hx hb dX10_wellBy_0 rfl (lv_at hl 2 rfl) ?_
  refine lv_iconst (v := (2 : Int32)) hx hb dX10_wellBy_1 ic_2 ?_
  refine lv_icmp_ge (tgt := 18) hx hb dX10_wellBy_2 rfl (fun hc => ?_) (fun hc => ?_)
  · have hF := (if_pos hc).symm.trans hF
    refine lv_iload_n hx hb dX10_wellBy_18 rfl (lv_at hl 2 rfl) ?_
    refine lv_iconst (v := (2 : Int32)) hx hb dX10_wellBy_19 ic_2 ?_
    refine lv_icmp_ne (tgt := 31) hx hb dX10_wellBy_20 rfl (fun hc => ?_) (fun hc => ?_)
    · have hF := (if_neg hc).symm.trans hF
      refine lv_aload_n hx hb dX10_wellBy_31 rfl (lv_at hl 0 rfl) ?_
      refine lv_iload_n hx hb dX10_wellBy_32 rfl (lv_at hl 1 rfl) ?_
      obtain ⟨q4, hq4, hF⟩ := bd_ok hF
      refine xX10_up Z hP hS hq4 wd_16_10 hl.1 (Nat.le_of_ble_eq_true rfl) ⟨Nat.le_of_ble_eq_true rfl, Nat.le_of_ble_eq_true rfl⟩ dX10_wellBy_33 (fun H locs hP hS => ?_)
      exact ret_I Z hr hlk hP hS hF dX10_wellBy_36
    · have hF := (if_pos hc).symm.trans hF
      refine lv_aload_n hx hb dX10_wellBy_23 rfl (lv_at hl 0 rfl) ?_
      refine lv_iload_n hx hb dX10_wellBy_24 rfl (lv_at hl 1 rfl) ?_
      obtain ⟨q5, hq5, hF⟩ := bd_ok hF
      refine xX10_down Z hP hS hq5 wd_16_6 hl.1 (Nat.le_of_ble_eq_true rfl) ⟨Nat.le_of_ble_eq_true rfl, Nat.le_of_ble_eq_true rfl⟩ dX10_wellBy_25 (fun H locs hP hS => ?_)
      refine lv_goto (tgt := 36) hx hb dX10_wellBy_28 rfl ?_
      exact ret_I Z hr hlk hP hS hF dX10_wellBy_36
  · have hF := (if_neg hc).symm.trans hF
    refine lv_aload_n hx hb dX10_wellBy_5 rfl (lv_at hl 0 rfl) ?_
    refine gf10_8 Z hP wd_6_10 dX10_wellBy_6 ?_
    refine lv_iconst (v := (2 : Int32)) hx hb dX10_wellBy_9 ic_2 ?_
    refine lv_iload_n hx hb dX10_wellBy_10 rfl (lv_at hl 1 rfl) ?_
    refine lv_imul hx hb dX10_wellBy_11 ?_
    refine lv_iload_n hx hb dX10_wellBy_12 rfl (lv_at hl 2 rfl) ?_
    refine lv_iadd hx hb dX10_wellBy_13 ?_
    obtain ⟨hi6, hF⟩ := ck_ok hF
    refine rM_ld Z hP 16 7 (by decide +kernel) hi6 dX10_wellBy_14 ?_
    refine lv_goto (tgt := 36) hx hb dX10_wellBy_15 rfl ?_
    exact ret_I Z hr hlk hP hS hF dX10_wellBy_36
theorem xX10_wellBy {p : Program} {l : Launch} {e : Env} {R : Room} {s : State} {m : MethodId} {args : Array Value} {below : List Frame} {meth : Method} {c : Code} {H : Heap} {locs : List Loc} {Q : State → Prop} {cc : ByteArray} {nL : Nat} {own : String} {g : GG} {pc index : Nat} {ls : Array Slot} {rest : List Value} {mc mm : Mem} (Z : ZZ p s m args c cc nL own g) (hP : va_P g.2.2.1 vwCl (wL g mc mm) H) (hS : va_S (AA g s.heap.size) s.heap H locs) {v1 : Int32} {v2 : Int32} {q : Int32} (hq : F10_wellBy v1 v2 mm = some q) (hlk : Cond.methodLink own index yX10_wellBy ∈ wsL_law) (hsz : ls.size = nL) (hro : (rest.map fun v => v.category).sum ≤ 8) (hR : 1 + 1 ≤ R.frames ∧ 8 + (3 + 11) + 24 ≤ R.locals) (hdg : decode cc pc = .ok (.invokevirtual index, 3)) (kk : ∀ (H : Heap) (locs : List Loc), va_P g.2.2.1 vwCl (wL g mc mm) H → va_S (AA g s.heap.size) s.heap H locs → W p l e R s m args below meth c H locs 0 0 Q (F0 m (pc + 3) ls (.int q :: rest))) : W p l e R s m args below meth c H locs 0 0 Q (F0 m pc ls (.int v2 :: .int v1 :: .ref (g.1 108) :: rest)) :=
  x_VI Z hP hS (kX10_wellBy l g v1 v2 mc mm q hq) (mO) (ci := 10) (by decide) rfl rfl mf_X10_wellBy mv_X10_wellBy hlk rfl rfl hsz hro hR hdg kk
theorem dX10_well_0 : decode cX10_well 0 = .ok (.aload_n 0, 1) := by decide +kernel
theorem dX10_well_1 : decode cX10_well 1 = .ok (.invokevirtual 140, 3) := by decide +kernel
theorem dX10_well_4 : decode cX10_well 4 = .ok (.pop, 1) := by decide +kernel
theorem dX10_well_5 : decode cX10_well 5 = .ok (.aload_n 0, 1) := by decide +kernel
theorem dX10_well_6 : decode cX10_well 6 = .ok (.iload_n 1, 1) := by decide +kernel
theorem dX10_well_7 : decode cX10_well 7 = .ok (.invokevirtual 160, 3) := by decide +kernel
theorem dX10_well_10 : decode cX10_well 10 = .ok (.ifCond .eq 24, 3) := by decide +kernel
theorem dX10_well_13 : decode cX10_well 13 = .ok (.iload_n 2, 1) := by decide +kernel
theorem dX10_well_14 : decode cX10_well 14 = .ok (.i2l, 1) := by decide +kernel
theorem dX10_well_15 : decode cX10_well 15 = .ok (.lconst 0, 1) := by decide +kernel
theorem dX10_well_16 : decode cX10_well 16 = .ok (.ldc2_w 90, 3) := by decide +kernel
theorem dX10_well_19 : decode cX10_well 19 = .ok (.invokestatic 83, 3) := by decide +kernel
theorem dX10_well_22 : decode cX10_well 22 = .ok (.ifCond .eq 12, 3) := by decide +kernel
theorem dX10_well_25 : decode cX10_well 25 = .ok (.aload_n 0, 1) := by decide +kernel
theorem dX10_well_26 : decode cX10_well 26 = .ok (.iload_n 1, 1) := by decide +kernel
theorem dX10_well_27 : decode cX10_well 27 = .ok (.iload_n 2, 1) := by decide +kernel
theorem dX10_well_28 : decode cX10_well 28 = .ok (.invokevirtual 163, 3) := by decide +kernel
theorem dX10_well_31 : decode cX10_well 31 = .ok (.goto 5, 3) := by decide +kernel
theorem dX10_well_34 : decode cX10_well 34 = .ok (.bipush (-2), 2) := by decide +kernel
theorem dX10_well_36 : decode cX10_well 36 = .ok (.ireturn, 1) := by decide +kernel
noncomputable def F10_well_b34 (v1 : Int32) (v2 : Int32) (M : Mem) : Option (Int32 × Mem) :=
  some ((-2 : Int32), M)
noncomputable def F10_well (v1 : Int32) (v2 : Int32) (mm : Mem) : Option (Int32 × Mem) :=
  ((F10_readsWells mm).bind (fun q5 => ((F10_isWell v1 q5.2).bind (fun q6 => (if q6 = (0 : Int32) then (F10_well_b34 v1 v2) q5.2 else ((F10_in v2.toInt64 (0 : Int64) (3 : Int64)).bind (fun q7 => (if q7 = (0 : Int32) then (F10_well_b34 v1 v2) q5.2 else ((F10_wellBy v1 v2 q5.2).bind (fun q8 => (some (q8, q5.2))))))))))))
set_option maxHeartbeats 4000000 in
set_option maxRecDepth 100000 in
theorem kX10_well (l : Launch) (g : GG) (v1 : Int32) (v2 : Int32) (mc mm : Mem) (q : Int32 × Mem) (hF : F10_well v1 v2 mm = some q) : KI l yX10_well cX10_well 3 .int 3 70 g [.ref (g.1 108), .int v1, .int v2] mc mm q.1 (mc, q.2) := by
  intro sz
  refine x_start (Qc := fun z => QI g z q.1 (mc, q.2)) (by decide +kernel) (Nat.le_of_ble_eq_true rfl) ?_ sz
  intro p e s m args below meth c ls Z hr hlk hP hl
  have hx := Z.1.1
  have hb := Z.1.2.1
  have hown := Z.1.2.2.2.1
  have hts := Z.1.2.2.2.2
  have hS : va_S (AA g s.heap.size) s.heap s.heap [] := va_S.rf
  have hl : lv_has ls 3 [(0, .ref (g.1 108)), (1, .int v1), (2, .int v2)] := hl
  unfold F10_well at hF
  have hb34 : ∀  (M : Mem), F10_well_b34 v1 v2 M = some q → ∀ (H : Heap) (locs : List Loc) (ls : Array Slot), lv_has ls 3 [] → va_P g.2.2.1 vwCl (wL g mc M) H → va_S (AA g s.heap.size) s.heap H locs → W p l e { frames := 3, cells := 0, slots := 0, locals := 70 } s m args below meth c H locs 0 0 (MQ below (QI g s.heap.size q.1 (mc, q.2)) args s 0 0 (AA g s.heap.size)) (F0 m 34 ls []) := by
    intro M hF H locs ls hl hP hS
    unfold F10_well_b34 at hF
    refine lv_bipush (v := (-2 : Int32)) hx hb dX10_well_34 bp_m2 ?_
    exact ret_IWM Z hr hlk hP hS hF dX10_well_36
  refine lv_aload_n hx hb dX10_well_0 rfl (lv_at hl 0 rfl) ?_
  obtain ⟨q5, hq5, hF⟩ := bd_ok hF
  refine xX10_readsWells Z hP hS hq5 wd_14_15 hl.1 (Nat.le_of_ble_eq_true rfl) ⟨Nat.le_of_ble_eq_true rfl, Nat.le_of_ble_eq_true rfl⟩ dX10_well_1 (fun H locs hP hS => ?_)
  refine lv_pop hx hb dX10_well_4 rfl ?_
  refine lv_aload_n hx hb dX10_well_5 rfl (lv_at hl 0 rfl) ?_
  refine lv_iload_n hx hb dX10_well_6 rfl (lv_at hl 1 rfl) ?_
  obtain ⟨q6, hq6, hF⟩ := bd_ok hF
  refine xX10_isWell Z hP hS hq6 wd_15_22 hl.1 (Nat.le_of_ble_eq_true rfl) ⟨Nat.le_of_ble_eq_true rfl, Nat.le_of_ble_eq_true rfl⟩ dX10_well_7 (fun H locs hP hS => ?_)
  refine lv_if_eq (tgt := 34) hx hb dX10_well_10 rfl (fun hc => ?_) (fun hc => ?_)
  · have hF := (if_pos hc).symm.trans hF
    exact hb34 _ hF _ _ _ (lv_sub hl [] rfl) hP hS
  · have hF := (if_neg hc).symm.trans hF
    refine lv_iload_n hx hb dX10_well_13 rfl (lv_at hl 2 rfl) ?_
    refine lv_i2l (v := v2.toInt64) hx hb dX10_well_14 rfl ?_
    refine lv_lconst (v := (0 : Int64)) hx hb dX10_well_15 lc_0 ?_
    refine lv_ldc2 (v := (3 : Int64)) hx hb hown (hts _ wd_15_21) dX10_well_16 ?_
    obtain ⟨q7, hq7, hF⟩ := bd_ok hF
    refine xX10_in Z hP hS hq7 wd_13_8 hl.1 (Nat.le_of_ble_eq_true rfl) ⟨Nat.le_of_ble_eq_true rfl, Nat.le_of_ble_eq_true rfl⟩ dX10_well_19 (fun H locs hP hS => ?_)
    refine lv_if_eq (tgt := 34) hx hb dX10_well_22 rfl (fun hc => ?_) (fun hc => ?_)
    · have hF := (if_pos hc).symm.trans hF
      exact hb34 _ hF _ _ _ (lv_sub hl [] rfl) hP hS
    · have hF := (if_neg hc).symm.trans hF
      refine lv_aload_n hx hb dX10_well_25 rfl (lv_at hl 0 rfl) ?_
      refine lv_iload_n hx hb dX10_well_26 rfl (lv_at hl 1 rfl) ?_
      refine lv_iload_n hx hb dX10_well_27 rfl (lv_at hl 2 rfl) ?_
      obtain ⟨q8, hq8, hF⟩ := bd_ok hF
      refine xX10_wellBy Z hP hS hq8 wd_16_2 hl.1 (Nat.le_of_ble_eq_true rfl) ⟨Nat.le_of_ble_eq_true rfl, Nat.le_of_ble_eq_true rfl⟩ dX10_well_28 (fun H locs hP hS => ?_)
      refine lv_goto (tgt := 36) hx hb dX10_well_31 rfl ?_
      exact ret_IWM Z hr hlk hP hS hF dX10_well_36
theorem xX10_well {p : Program} {l : Launch} {e : Env} {R : Room} {s : State} {m : MethodId} {args : Array Value} {below : List Frame} {meth : Method} {c : Code} {H : Heap} {locs : List Loc} {Q : State → Prop} {cc : ByteArray} {nL : Nat} {own : String} {g : GG} {pc index : Nat} {ls : Array Slot} {rest : List Value} {mc mm : Mem} (Z : ZZ p s m args c cc nL own g) (hP : va_P g.2.2.1 vwCl (wL g mc mm) H) (hS : va_S (AA g s.heap.size) s.heap H locs) {v1 : Int32} {v2 : Int32} {q : Int32 × Mem} (hq : F10_well v1 v2 mm = some q) (hlk : Cond.methodLink own index yX10_well ∈ wsL_law) (hsz : ls.size = nL) (hro : (rest.map fun v => v.category).sum ≤ 8) (hR : 3 + 1 ≤ R.frames ∧ 8 + (3 + 11) + 70 ≤ R.locals) (hdg : decode cc pc = .ok (.invokevirtual index, 3)) (kk : ∀ (H : Heap) (locs : List Loc), va_P g.2.2.1 vwCl (wL g mc q.2) H → va_S (AA g s.heap.size) s.heap H locs → W p l e R s m args below meth c H locs 0 0 Q (F0 m (pc + 3) ls (.int q.1 :: rest))) : W p l e R s m args below meth c H locs 0 0 Q (F0 m pc ls (.int v2 :: .int v1 :: .ref (g.1 108) :: rest)) :=
  x_VI Z hP hS (kX10_well l g v1 v2 mc mm q hq) (mO) (ci := 10) (by decide) rfl rfl mf_X10_well mv_X10_well hlk rfl rfl hsz hro hR hdg kk
theorem dX10_sayingBy_0 : decode cX10_sayingBy 0 = .ok (.iload_n 2, 1) := by decide +kernel
theorem dX10_sayingBy_1 : decode cX10_sayingBy 1 = .ok (.iconst 4, 1) := by decide +kernel
theorem dX10_sayingBy_2 : decode cX10_sayingBy 2 = .ok (.if_icmp .lt 20, 3) := by decide +kernel
theorem dX10_sayingBy_5 : decode cX10_sayingBy 5 = .ok (.iload_n 2, 1) := by decide +kernel
theorem dX10_sayingBy_6 : decode cX10_sayingBy 6 = .ok (.iconst 4, 1) := by decide +kernel
theorem dX10_sayingBy_7 : decode cX10_sayingBy 7 = .ok (.isub, 1) := by decide +kernel
theorem dX10_sayingBy_8 : decode cX10_sayingBy 8 = .ok (.aload_n 0, 1) := by decide +kernel
theorem dX10_sayingBy_9 : decode cX10_sayingBy 9 = .ok (.getfield 31, 3) := by decide +kernel
theorem dX10_sayingBy_12 : decode cX10_sayingBy 12 = .ok (.bipush 8, 2) := by decide +kernel
theorem dX10_sayingBy_14 : decode cX10_sayingBy 14 = .ok (.iload_n 1, 1) := by decide +kernel
theorem dX10_sayingBy_15 : decode cX10_sayingBy 15 = .ok (.imul, 1) := by decide +kernel
theorem dX10_sayingBy_16 : decode cX10_sayingBy 16 = .ok (.iconst 3, 1) := by decide +kernel
theorem dX10_sayingBy_17 : decode cX10_sayingBy 17 = .ok (.iadd, 1) := by decide +kernel
theorem dX10_sayingBy_18 : decode cX10_sayingBy 18 = .ok (.iaload, 1) := by decide +kernel
theorem dX10_sayingBy_19 : decode cX10_sayingBy 19 = .ok (.if_icmp .ge 17, 3) := by decide +kernel
theorem dX10_sayingBy_22 : decode cX10_sayingBy 22 = .ok (.aload_n 0, 1) := by decide +kernel
theorem dX10_sayingBy_23 : decode cX10_sayingBy 23 = .ok (.getfield 31, 3) := by decide +kernel
theorem dX10_sayingBy_26 : decode cX10_sayingBy 26 = .ok (.bipush 8, 2) := by decide +kernel
theorem dX10_sayingBy_28 : decode cX10_sayingBy 28 = .ok (.iload_n 1, 1) := by decide +kernel
theorem dX10_sayingBy_29 : decode cX10_sayingBy 29 = .ok (.imul, 1) := by decide +kernel
theorem dX10_sayingBy_30 : decode cX10_sayingBy 30 = .ok (.iload_n 2, 1) := by decide +kernel
theorem dX10_sayingBy_31 : decode cX10_sayingBy 31 = .ok (.iadd, 1) := by decide +kernel
theorem dX10_sayingBy_32 : decode cX10_sayingBy 32 = .ok (.iaload, 1) := by decide +kernel
theorem dX10_sayingBy_33 : decode cX10_sayingBy 33 = .ok (.goto 4, 3) := by decide +kernel
theorem dX10_sayingBy_36 : decode cX10_sayingBy 36 = .ok (.iconst (-1), 1) := by decide +kernel
theorem dX10_sayingBy_37 : decode cX10_sayingBy 37 = .ok (.ireturn, 1) := by decide +kernel
noncomputable def F10_sayingBy_b22 (v1 : Int32) (v2 : Int32) (mm : Mem) : Option (Int32) :=
  (ck (((8 : Int32) * v1) + v2) 64 (some (mm 8 (((8 : Int32) * v1) + v2).toNatClampNeg)))
noncomputable def F10_sayingBy (v1 : Int32) (v2 : Int32) (mm : Mem) : Option (Int32) :=
  (if v2 < (4 : Int32) then (F10_sayingBy_b22 v1 v2 mm) else (ck (((8 : Int32) * v1) + (3 : Int32)) 64 (if (mm 8 (((8 : Int32) * v1) + (3 : Int32)).toNatClampNeg) ≤ (v2 - (4 : Int32)) then some (-1 : Int32) else (F10_sayingBy_b22 v1 v2 mm))))
set_option maxHeartbeats 4000000 in
set_option maxRecDepth 100000 in
theorem kX10_sayingBy (l : Launch) (g : GG) (v1 : Int32) (v2 : Int32) (mc mm : Mem) (q : Int32) (hF : F10_sayingBy v1 v2 mm = some q) : KI l yX10_sayingBy cX10_sayingBy 3 .int 0 0 g [.ref (g.1 108), .int v1, .int v2] mc mm q (mc, mm) := by
  intro sz
  refine x_start (Qc := fun z => QI g z q (mc, mm)) (by decide +kernel) (Nat.le_of_ble_eq_true rfl) ?_ sz
  intro p e s m args below meth c ls Z hr hlk hP hl
  have hx := Z.1.1
  have hb := Z.1.2.1
  have hown := Z.1.2.2.2.1
  have hts := Z.1.2.2.2.2
  have hS : va_S (AA g s.heap.size) s.heap s.heap [] := va_S.rf
  have hl : lv_has ls 3 [(0, .ref (g.1 108)), (1, .int v1), (2, .int v2)] := hl
  unfold F10_sayingBy at hF
  have hb22 : F10_sayingBy_b22 v1 v2 mm = some q → ∀ (H : Heap) (locs : List Loc) (ls : Array Slot), lv_has ls 3 [(0, .ref (g.1 108)), (1, .int v1), (2, .int v2)] → va_P g.2.2.1 vwCl (wL g mc mm) H → va_S (AA g s.heap.size) s.heap H locs → W p l e { frames := 0, cells := 0, slots := 0, locals := 0 } s m args below meth c H locs 0 0 (MQ below (QI g s.heap.size q (mc, mm)) args s 0 0 (AA g s.heap.size)) (F0 m 22 ls []) := by
    intro hF H locs ls hl hP hS
    unfold F10_sayingBy_b22 at hF
    refine lv_aload_n hx hb dX10_sayingBy_22 rfl (lv_at hl 0 rfl) ?_
    refine gf10_10 Z hP wd_6_11 dX10_sayingBy_23 ?_
    refine lv_bipush (v := (8 : Int32)) hx hb dX10_sayingBy_26 bp_8 ?_
    refine lv_iload_n hx hb dX10_sayingBy_28 rfl (lv_at hl 1 rfl) ?_
    refine lv_imul hx hb dX10_sayingBy_29 ?_
    refine lv_iload_n hx hb dX10_sayingBy_30 rfl (lv_at hl 2 rfl) ?_
    refine lv_iadd hx hb dX10_sayingBy_31 ?_
    obtain ⟨hi3, hF⟩ := ck_ok hF
    refine rM_ld Z hP 64 8 (by decide +kernel) hi3 dX10_sayingBy_32 ?_
    refine lv_goto (tgt := 37) hx hb dX10_sayingBy_33 rfl ?_
    exact ret_I Z hr hlk hP hS hF dX10_sayingBy_37
  refine lv_iload_n hx hb dX10_sayingBy_0 rfl (lv_at hl 2 rfl) ?_
  refine lv_iconst (v := (4 : Int32)) hx hb dX10_sayingBy_1 ic_4 ?_
  refine lv_icmp_lt (tgt := 22) hx hb dX10_sayingBy_2 rfl (fun hc => ?_) (fun hc => ?_)
  · have hF := (if_pos hc).symm.trans hF
    exact hb22  hF _ _ _ (lv_sub hl [0, 1, 2] rfl) hP hS
  · have hF := (if_neg hc).symm.trans hF
    refine lv_iload_n hx hb dX10_sayingBy_5 rfl (lv_at hl 2 rfl) ?_
    refine lv_iconst (v := (4 : Int32)) hx hb dX10_sayingBy_6 ic_4 ?_
    refine lv_isub hx hb dX10_sayingBy_7 ?_
    refine lv_aload_n hx hb dX10_sayingBy_8 rfl (lv_at hl 0 rfl) ?_
    refine gf10_10 Z hP wd_6_11 dX10_sayingBy_9 ?_
    refine lv_bipush (v := (8 : Int32)) hx hb dX10_sayingBy_12 bp_8 ?_
    refine lv_iload_n hx hb dX10_sayingBy_14 rfl (lv_at hl 1 rfl) ?_
    refine lv_imul hx hb dX10_sayingBy_15 ?_
    refine lv_iconst (v := (3 : Int32)) hx hb dX10_sayingBy_16 ic_3 ?_
    refine lv_iadd hx hb dX10_sayingBy_17 ?_
    obtain ⟨hi4, hF⟩ := ck_ok hF
    refine rM_ld Z hP 64 8 (by decide +kernel) hi4 dX10_sayingBy_18 ?_
    refine lv_icmp_ge (tgt := 36) hx hb dX10_sayingBy_19 rfl (fun hc => ?_) (fun hc => ?_)
    · have hF := (if_pos hc).symm.trans hF
      refine lv_iconst (v := (-1 : Int32)) hx hb dX10_sayingBy_36 ic_m1 ?_
      exact ret_I Z hr hlk hP hS hF dX10_sayingBy_37
    · have hF := (if_neg hc).symm.trans hF
      exact hb22  hF _ _ _ (lv_sub hl [0, 1, 2] rfl) hP hS
theorem xX10_sayingBy {p : Program} {l : Launch} {e : Env} {R : Room} {s : State} {m : MethodId} {args : Array Value} {below : List Frame} {meth : Method} {c : Code} {H : Heap} {locs : List Loc} {Q : State → Prop} {cc : ByteArray} {nL : Nat} {own : String} {g : GG} {pc index : Nat} {ls : Array Slot} {rest : List Value} {mc mm : Mem} (Z : ZZ p s m args c cc nL own g) (hP : va_P g.2.2.1 vwCl (wL g mc mm) H) (hS : va_S (AA g s.heap.size) s.heap H locs) {v1 : Int32} {v2 : Int32} {q : Int32} (hq : F10_sayingBy v1 v2 mm = some q) (hlk : Cond.methodLink own index yX10_sayingBy ∈ wsL_law) (hsz : ls.size = nL) (hro : (rest.map fun v => v.category).sum ≤ 8) (hR : 0 + 1 ≤ R.frames ∧ 8 + (3 + 11) + 0 ≤ R.locals) (hdg : decode cc pc = .ok (.invokevirtual index, 3)) (kk : ∀ (H : Heap) (locs : List Loc), va_P g.2.2.1 vwCl (wL g mc mm) H → va_S (AA g s.heap.size) s.heap H locs → W p l e R s m args below meth c H locs 0 0 Q (F0 m (pc + 3) ls (.int q :: rest))) : W p l e R s m args below meth c H locs 0 0 Q (F0 m pc ls (.int v2 :: .int v1 :: .ref (g.1 108) :: rest)) :=
  x_VI Z hP hS (kX10_sayingBy l g v1 v2 mc mm q hq) (mO) (ci := 10) (by decide) rfl rfl mf_X10_sayingBy mv_X10_sayingBy hlk rfl rfl hsz hro hR hdg kk
theorem dX10_saying_0 : decode cX10_saying 0 = .ok (.aload_n 0, 1) := by decide +kernel
theorem dX10_saying_1 : decode cX10_saying 1 = .ok (.invokevirtual 144, 3) := by decide +kernel
theorem dX10_saying_4 : decode cX10_saying 4 = .ok (.pop, 1) := by decide +kernel
theorem dX10_saying_5 : decode cX10_saying 5 = .ok (.aload_n 0, 1) := by decide +kernel
theorem dX10_saying_6 : decode cX10_saying 6 = .ok (.iload_n 1, 1) := by decide +kernel
theorem dX10_saying_7 : decode cX10_saying 7 = .ok (.invokevirtual 166, 3) := by decide +kernel
theorem dX10_saying_10 : decode cX10_saying 10 = .ok (.ifCond .eq 24, 3) := by decide +kernel
theorem dX10_saying_13 : decode cX10_saying 13 = .ok (.iload_n 2, 1) := by decide +kernel
theorem dX10_saying_14 : decode cX10_saying 14 = .ok (.i2l, 1) := by decide +kernel
theorem dX10_saying_15 : decode cX10_saying 15 = .ok (.lconst 0, 1) := by decide +kernel
theorem dX10_saying_16 : decode cX10_saying 16 = .ok (.ldc2_w 152, 3) := by decide +kernel
theorem dX10_saying_19 : decode cX10_saying 19 = .ok (.invokestatic 83, 3) := by decide +kernel
theorem dX10_saying_22 : decode cX10_saying 22 = .ok (.ifCond .eq 12, 3) := by decide +kernel
theorem dX10_saying_25 : decode cX10_saying 25 = .ok (.aload_n 0, 1) := by decide +kernel
theorem dX10_saying_26 : decode cX10_saying 26 = .ok (.iload_n 1, 1) := by decide +kernel
theorem dX10_saying_27 : decode cX10_saying 27 = .ok (.iload_n 2, 1) := by decide +kernel
theorem dX10_saying_28 : decode cX10_saying 28 = .ok (.invokevirtual 169, 3) := by decide +kernel
theorem dX10_saying_31 : decode cX10_saying 31 = .ok (.goto 5, 3) := by decide +kernel
theorem dX10_saying_34 : decode cX10_saying 34 = .ok (.bipush (-2), 2) := by decide +kernel
theorem dX10_saying_36 : decode cX10_saying 36 = .ok (.ireturn, 1) := by decide +kernel
noncomputable def F10_saying_b34 (v1 : Int32) (v2 : Int32) (M : Mem) : Option (Int32 × Mem) :=
  some ((-2 : Int32), M)
noncomputable def F10_saying (v1 : Int32) (v2 : Int32) (mm : Mem) : Option (Int32 × Mem) :=
  ((F10_readsSayings mm).bind (fun q5 => ((F10_isSaying v1 q5.2).bind (fun q6 => (if q6 = (0 : Int32) then (F10_saying_b34 v1 v2) q5.2 else ((F10_in v2.toInt64 (0 : Int64) (7 : Int64)).bind (fun q7 => (if q7 = (0 : Int32) then (F10_saying_b34 v1 v2) q5.2 else ((F10_sayingBy v1 v2 q5.2).bind (fun q8 => (some (q8, q5.2))))))))))))
set_option maxHeartbeats 4000000 in
set_option maxRecDepth 100000 in
theorem kX10_saying (l : Launch) (g : GG) (v1 : Int32) (v2 : Int32) (mc mm : Mem) (q : Int32 × Mem) (hF : F10_saying v1 v2 mm = some q) : KI l yX10_saying cX10_saying 3 .int 3 72 g [.ref (g.1 108), .int v1, .int v2] mc mm q.1 (mc, q.2) := by
  intro sz
  refine x_start (Qc := fun z => QI g z q.1 (mc, q.2)) (by decide +kernel) (Nat.le_of_ble_eq_true rfl) ?_ sz
  intro p e s m args below meth c ls Z hr hlk hP hl
  have hx := Z.1.1
  have hb := Z.1.2.1
  have hown := Z.1.2.2.2.1
  have hts := Z.1.2.2.2.2
  have hS : va_S (AA g s.heap.size) s.heap s.heap [] := va_S.rf
  have hl : lv_has ls 3 [(0, .ref (g.1 108)), (1, .int v1), (2, .int v2)] := hl
  unfold F10_saying at hF
  have hb34 : ∀  (M : Mem), F10_saying_b34 v1 v2 M = some q → ∀ (H : Heap) (locs : List Loc) (ls : Array Slot), lv_has ls 3 [] → va_P g.2.2.1 vwCl (wL g mc M) H → va_S (AA g s.heap.size) s.heap H locs → W p l e { frames := 3, cells := 0, slots := 0, locals := 72 } s m args below meth c H locs 0 0 (MQ below (QI g s.heap.size q.1 (mc, q.2)) args s 0 0 (AA g s.heap.size)) (F0 m 34 ls []) := by
    intro M hF H locs ls hl hP hS
    unfold F10_saying_b34 at hF
    refine lv_bipush (v := (-2 : Int32)) hx hb dX10_saying_34 bp_m2 ?_
    exact ret_IWM Z hr hlk hP hS hF dX10_saying_36
  refine lv_aload_n hx hb dX10_saying_0 rfl (lv_at hl 0 rfl) ?_
  obtain ⟨q5, hq5, hF⟩ := bd_ok hF
  refine xX10_readsSayings Z hP hS hq5 wd_15_1 hl.1 (Nat.le_of_ble_eq_true rfl) ⟨Nat.le_of_ble_eq_true rfl, Nat.le_of_ble_eq_true rfl⟩ dX10_saying_1 (fun H locs hP hS => ?_)
  refine lv_pop hx hb dX10_saying_4 rfl ?_
  refine lv_aload_n hx hb dX10_saying_5 rfl (lv_at hl 0 rfl) ?_
  refine lv_iload_n hx hb dX10_saying_6 rfl (lv_at hl 1 rfl) ?_
  obtain ⟨q6, hq6, hF⟩ := bd_ok hF
  refine xX10_isSaying Z hP hS hq6 wd_17_3 hl.1 (Nat.le_of_ble_eq_true rfl) ⟨Nat.le_of_ble_eq_true rfl, Nat.le_of_ble_eq_true rfl⟩ dX10_saying_7 (fun H locs hP hS => ?_)
  refine lv_if_eq (tgt := 34) hx hb dX10_saying_10 rfl (fun hc => ?_) (fun hc => ?_)
  · have hF := (if_pos hc).symm.trans hF
    exact hb34 _ hF _ _ _ (lv_sub hl [] rfl) hP hS
  · have hF := (if_neg hc).symm.trans hF
    refine lv_iload_n hx hb dX10_saying_13 rfl (lv_at hl 2 rfl) ?_
    refine lv_i2l (v := v2.toInt64) hx hb dX10_saying_14 rfl ?_
    refine lv_lconst (v := (0 : Int64)) hx hb dX10_saying_15 lc_0 ?_
    refine lv_ldc2 (v := (7 : Int64)) hx hb hown (hts _ wd_17_2) dX10_saying_16 ?_
    obtain ⟨q7, hq7, hF⟩ := bd_ok hF
    refine xX10_in Z hP hS hq7 wd_13_8 hl.1 (Nat.le_of_ble_eq_true rfl) ⟨Nat.le_of_ble_eq_true rfl, Nat.le_of_ble_eq_true rfl⟩ dX10_saying_19 (fun H locs hP hS => ?_)
    refine lv_if_eq (tgt := 34) hx hb dX10_saying_22 rfl (fun hc => ?_) (fun hc => ?_)
    · have hF := (if_pos hc).symm.trans hF
      exact hb34 _ hF _ _ _ (lv_sub hl [] rfl) hP hS
    · have hF := (if_neg hc).symm.trans hF
      refine lv_aload_n hx hb dX10_saying_25 rfl (lv_at hl 0 rfl) ?_
      refine lv_iload_n hx hb dX10_saying_26 rfl (lv_at hl 1 rfl) ?_
      refine lv_iload_n hx hb dX10_saying_27 rfl (lv_at hl 2 rfl) ?_
      obtain ⟨q8, hq8, hF⟩ := bd_ok hF
      refine xX10_sayingBy Z hP hS hq8 wd_17_7 hl.1 (Nat.le_of_ble_eq_true rfl) ⟨Nat.le_of_ble_eq_true rfl, Nat.le_of_ble_eq_true rfl⟩ dX10_saying_28 (fun H locs hP hS => ?_)
      refine lv_goto (tgt := 36) hx hb dX10_saying_31 rfl ?_
      exact ret_IWM Z hr hlk hP hS hF dX10_saying_36
theorem xX10_saying {p : Program} {l : Launch} {e : Env} {R : Room} {s : State} {m : MethodId} {args : Array Value} {below : List Frame} {meth : Method} {c : Code} {H : Heap} {locs : List Loc} {Q : State → Prop} {cc : ByteArray} {nL : Nat} {own : String} {g : GG} {pc index : Nat} {ls : Array Slot} {rest : List Value} {mc mm : Mem} (Z : ZZ p s m args c cc nL own g) (hP : va_P g.2.2.1 vwCl (wL g mc mm) H) (hS : va_S (AA g s.heap.size) s.heap H locs) {v1 : Int32} {v2 : Int32} {q : Int32 × Mem} (hq : F10_saying v1 v2 mm = some q) (hlk : Cond.methodLink own index yX10_saying ∈ wsL_law) (hsz : ls.size = nL) (hro : (rest.map fun v => v.category).sum ≤ 8) (hR : 3 + 1 ≤ R.frames ∧ 8 + (3 + 11) + 72 ≤ R.locals) (hdg : decode cc pc = .ok (.invokevirtual index, 3)) (kk : ∀ (H : Heap) (locs : List Loc), va_P g.2.2.1 vwCl (wL g mc q.2) H → va_S (AA g s.heap.size) s.heap H locs → W p l e R s m args below meth c H locs 0 0 Q (F0 m (pc + 3) ls (.int q.1 :: rest))) : W p l e R s m args below meth c H locs 0 0 Q (F0 m pc ls (.int v2 :: .int v1 :: .ref (g.1 108) :: rest)) :=
  x_VI Z hP hS (kX10_saying l g v1 v2 mc mm q hq) (mO) (ci := 10) (by decide) rfl rfl mf_X10_saying mv_X10_saying hlk rfl rfl hsz hro hR hdg kk
theorem dX10_puts_0 : decode cX10_puts 0 = .ok (.aload_n 0, 1) := by decide +kernel
theorem dX10_puts_1 : decode cX10_puts 1 = .ok (.getfield 34, 3) := by decide +kernel
theorem dX10_puts_4 : decode cX10_puts 4 = .ok (.iconst 3, 1) := by decide +kernel
theorem dX10_puts_5 : decode cX10_puts 5 = .ok (.aload_n 0, 1) := by decide +kernel
theorem dX10_puts_6 : decode cX10_puts 6 = .ok (.getfield 172, 3) := by decide +kernel
theorem dX10_puts_9 : decode cX10_puts 9 = .ok (.imul, 1) := by decide +kernel
theorem dX10_puts_10 : decode cX10_puts 10 = .ok (.iload_n 1, 1) := by decide +kernel
theorem dX10_puts_11 : decode cX10_puts 11 = .ok (.iastore, 1) := by decide +kernel
theorem dX10_puts_12 : decode cX10_puts 12 = .ok (.aload_n 0, 1) := by decide +kernel
theorem dX10_puts_13 : decode cX10_puts 13 = .ok (.getfield 34, 3) := by decide +kernel
theorem dX10_puts_16 : decode cX10_puts 16 = .ok (.iconst 3, 1) := by decide +kernel
theorem dX10_puts_17 : decode cX10_puts 17 = .ok (.aload_n 0, 1) := by decide +kernel
theorem dX10_puts_18 : decode cX10_puts 18 = .ok (.getfield 172, 3) := by decide +kernel
theorem dX10_puts_21 : decode cX10_puts 21 = .ok (.imul, 1) := by decide +kernel
theorem dX10_puts_22 : decode cX10_puts 22 = .ok (.iconst 1, 1) := by decide +kernel
theorem dX10_puts_23 : decode cX10_puts 23 = .ok (.iadd, 1) := by decide +kernel
theorem dX10_puts_24 : decode cX10_puts 24 = .ok (.iload_n 2, 1) := by decide +kernel
theorem dX10_puts_25 : decode cX10_puts 25 = .ok (.iastore, 1) := by decide +kernel
theorem dX10_puts_26 : decode cX10_puts 26 = .ok (.aload_n 0, 1) := by decide +kernel
theorem dX10_puts_27 : decode cX10_puts 27 = .ok (.getfield 34, 3) := by decide +kernel
theorem dX10_puts_30 : decode cX10_puts 30 = .ok (.iconst 3, 1) := by decide +kernel
theorem dX10_puts_31 : decode cX10_puts 31 = .ok (.aload_n 0, 1) := by decide +kernel
theorem dX10_puts_32 : decode cX10_puts 32 = .ok (.getfield 172, 3) := by decide +kernel
theorem dX10_puts_35 : decode cX10_puts 35 = .ok (.imul, 1) := by decide +kernel
theorem dX10_puts_36 : decode cX10_puts 36 = .ok (.iconst 2, 1) := by decide +kernel
theorem dX10_puts_37 : decode cX10_puts 37 = .ok (.iadd, 1) := by decide +kernel
theorem dX10_puts_38 : decode cX10_puts 38 = .ok (.iload_n 3, 1) := by decide +kernel
theorem dX10_puts_39 : decode cX10_puts 39 = .ok (.iastore, 1) := by decide +kernel
theorem dX10_puts_40 : decode cX10_puts 40 = .ok (.aload_n 0, 1) := by decide +kernel
theorem dX10_puts_41 : decode cX10_puts 41 = .ok (.dup, 1) := by decide +kernel
theorem dX10_puts_42 : decode cX10_puts 42 = .ok (.getfield 172, 3) := by decide +kernel
theorem dX10_puts_45 : decode cX10_puts 45 = .ok (.iconst 1, 1) := by decide +kernel
theorem dX10_puts_46 : decode cX10_puts 46 = .ok (.iadd, 1) := by decide +kernel
theorem dX10_puts_47 : decode cX10_puts 47 = .ok (.putfield 172, 3) := by decide +kernel
theorem dX10_puts_50 : decode cX10_puts 50 = .ok (.return_, 1) := by decide +kernel
noncomputable def F10_puts (v1 : Int32) (v2 : Int32) (v3 : Int32) (mm : Mem) : Option (Mem) :=
  (ck ((3 : Int32) * (mm 0 11)) 24 (lt (mset mm 9 ((3 : Int32) * (mm 0 11)).toNatClampNeg v1) (fun M8 => (ck (((3 : Int32) * (M8 0 11)) + (1 : Int32)) 24 (lt (mset M8 9 (((3 : Int32) * (M8 0 11)) + (1 : Int32)).toNatClampNeg v2) (fun M10 => (ck (((3 : Int32) * (M10 0 11)) + (2 : Int32)) 24 (lt (mset M10 9 (((3 : Int32) * (M10 0 11)) + (2 : Int32)).toNatClampNeg v3) (fun M12 => (some (mset M12 0 11 ((M12 0 11) + (1 : Int32)))))))))))))
set_option maxHeartbeats 4000000 in
set_option maxRecDepth 100000 in
theorem kX10_puts (l : Launch) (g : GG) (v1 : Int32) (v2 : Int32) (v3 : Int32) (mc mm : Mem) (q : Mem) (hF : F10_puts v1 v2 v3 mm = some q) : KV l yX10_puts cX10_puts 4 0 0 g [.ref (g.1 108), .int v1, .int v2, .int v3] mc mm (mc, q) := by
  intro sz
  refine x_start (Qc := fun z => QV g z (mc, q)) (by decide +kernel) (Nat.le_of_ble_eq_true rfl) ?_ sz
  intro p e s m args below meth c ls Z hr hlk hP hl
  have hx := Z.1.1
  have hb := Z.1.2.1
  have hown := Z.1.2.2.2.1
  have hts := Z.1.2.2.2.2
  have hS : va_S (AA g s.heap.size) s.heap s.heap [] := va_S.rf
  have hl : lv_has ls 4 [(0, .ref (g.1 108)), (1, .int v1), (2, .int v2), (3, .int v3)] := hl
  unfold F10_puts at hF
  refine lv_aload_n hx hb dX10_puts_0 rfl (lv_at hl 0 rfl) ?_
  refine gf10_12 Z hP wd_6_12 dX10_puts_1 ?_
  refine lv_iconst (v := (3 : Int32)) hx hb dX10_puts_4 ic_3 ?_
  refine lv_aload_n hx hb dX10_puts_5 rfl (lv_at hl 0 rfl) ?_
  refine gf10_11 Z hP wd_18_4 dX10_puts_6 ?_
  refine lv_imul hx hb dX10_puts_9 ?_
  refine lv_iload_n hx hb dX10_puts_10 rfl (lv_at hl 1 rfl) ?_
  obtain ⟨hi7, hF⟩ := ck_ok hF
  refine rM_st Z hP hS 24 9 (by decide +kernel) hi7 dX10_puts_11 (fun H locs hP hS => ?_)
  refine lv_aload_n hx hb dX10_puts_12 rfl (lv_at hl 0 rfl) ?_
  refine gf10_12 Z hP wd_6_12 dX10_puts_13 ?_
  refine lv_iconst (v := (3 : Int32)) hx hb dX10_puts_16 ic_3 ?_
  refine lv_aload_n hx hb dX10_puts_17 rfl (lv_at hl 0 rfl) ?_
  obtain ⟨M8, eM8, hF⟩ := lt_ok hF
  have hP : va_P g.2.2.1 vwCl (wL g mc M8) H := by rw [eM8]; exact hP
  refine gf10_11 Z hP wd_18_4 dX10_puts_18 ?_
  refine lv_imul hx hb dX10_puts_21 ?_
  refine lv_iconst (v := (1 : Int32)) hx hb dX10_puts_22 ic_1 ?_
  refine lv_iadd hx hb dX10_puts_23 ?_
  refine lv_iload_n hx hb dX10_puts_24 rfl (lv_at hl 2 rfl) ?_
  obtain ⟨hi9, hF⟩ := ck_ok hF
  refine rM_st Z hP hS 24 9 (by decide +kernel) hi9 dX10_puts_25 (fun H locs hP hS => ?_)
  refine lv_aload_n hx hb dX10_puts_26 rfl (lv_at hl 0 rfl) ?_
  refine gf10_12 Z hP wd_6_12 dX10_puts_27 ?_
  refine lv_iconst (v := (3 : Int32)) hx hb dX10_puts_30 ic_3 ?_
  refine lv_aload_n hx hb dX10_puts_31 rfl (lv_at hl 0 rfl) ?_
  obtain ⟨M10, eM10, hF⟩ := lt_ok hF
  have hP : va_P g.2.2.1 vwCl (wL g mc M10) H := by rw [eM10]; exact hP
  refine gf10_11 Z hP wd_18_4 dX10_puts_32 ?_
  refine lv_imul hx hb dX10_puts_35 ?_
  refine lv_iconst (v := (2 : Int32)) hx hb dX10_puts_36 ic_2 ?_
  refine lv_iadd hx hb dX10_puts_37 ?_
  refine lv_iload_n hx hb dX10_puts_38 rfl (lv_at hl 3 rfl) ?_
  obtain ⟨hi11, hF⟩ := ck_ok hF
  refine rM_st Z hP hS 24 9 (by decide +kernel) hi11 dX10_puts_39 (fun H locs hP hS => ?_)
  refine lv_aload_n hx hb dX10_puts_40 rfl (lv_at hl 0 rfl) ?_
  refine lv_dup hx hb dX10_puts_41 rfl ?_
  obtain ⟨M12, eM12, hF⟩ := lt_ok hF
  have hP : va_P g.2.2.1 vwCl (wL g mc M12) H := by rw [eM12]; exact hP
  refine gf10_11 Z hP wd_18_4 dX10_puts_42 ?_
  refine lv_iconst (v := (1 : Int32)) hx hb dX10_puts_45 ic_1 ?_
  refine lv_iadd hx hb dX10_puts_46 ?_
  refine pf10_11 Z hP hS wd_18_4 dX10_puts_47 (fun H locs hP hS => ?_)
  exact ret_VWM Z hr hlk hP hS hF dX10_puts_50
theorem xX10_puts {p : Program} {l : Launch} {e : Env} {R : Room} {s : State} {m : MethodId} {args : Array Value} {below : List Frame} {meth : Method} {c : Code} {H : Heap} {locs : List Loc} {Q : State → Prop} {cc : ByteArray} {nL : Nat} {own : String} {g : GG} {pc index : Nat} {ls : Array Slot} {rest : List Value} {mc mm : Mem} (Z : ZZ p s m args c cc nL own g) (hP : va_P g.2.2.1 vwCl (wL g mc mm) H) (hS : va_S (AA g s.heap.size) s.heap H locs) {v1 : Int32} {v2 : Int32} {v3 : Int32} {q : Mem} (hq : F10_puts v1 v2 v3 mm = some q) (hlk : Cond.methodLink own index yX10_puts ∈ wsL_law) (hsz : ls.size = nL) (hro : (rest.map fun v => v.category).sum ≤ 8) (hR : 0 + 1 ≤ R.frames ∧ 8 + (4 + 11) + 0 ≤ R.locals) (hdg : decode cc pc = .ok (.invokevirtual index, 3)) (kk : ∀ (H : Heap) (locs : List Loc), va_P g.2.2.1 vwCl (wL g mc q) H → va_S (AA g s.heap.size) s.heap H locs → W p l e R s m args below meth c H locs 0 0 Q (F0 m (pc + 3) ls (rest))) : W p l e R s m args below meth c H locs 0 0 Q (F0 m pc ls (.int v3 :: .int v2 :: .int v1 :: .ref (g.1 108) :: rest)) :=
  x_VV Z hP hS (kX10_puts l g v1 v2 v3 mc mm q hq) (mO) (ci := 10) (by decide) rfl rfl mf_X10_puts mv_X10_puts hlk rfl rfl hsz hro hR hdg kk
theorem dX10_event_0 : decode cX10_event 0 = .ok (.iload_n 1, 1) := by decide +kernel
theorem dX10_event_1 : decode cX10_event 1 = .ok (.i2l, 1) := by decide +kernel
theorem dX10_event_2 : decode cX10_event 2 = .ok (.lconst 0, 1) := by decide +kernel
theorem dX10_event_3 : decode cX10_event 3 = .ok (.ldc2_w 96, 3) := by decide +kernel
theorem dX10_event_6 : decode cX10_event 6 = .ok (.invokestatic 83, 3) := by decide +kernel
theorem dX10_event_9 : decode cX10_event 9 = .ok (.ifCond .eq 17, 3) := by decide +kernel
theorem dX10_event_12 : decode cX10_event 12 = .ok (.iload_n 2, 1) := by decide +kernel
theorem dX10_event_13 : decode cX10_event 13 = .ok (.invokestatic 175, 3) := by decide +kernel
theorem dX10_event_16 : decode cX10_event 16 = .ok (.ifCond .eq 10, 3) := by decide +kernel
theorem dX10_event_19 : decode cX10_event 19 = .ok (.iload_n 3, 1) := by decide +kernel
theorem dX10_event_20 : decode cX10_event 20 = .ok (.invokestatic 178, 3) := by decide +kernel
theorem dX10_event_23 : decode cX10_event 23 = .ok (.ifCond .ne 6, 3) := by decide +kernel
theorem dX10_event_26 : decode cX10_event 26 = .ok (.bipush (-2), 2) := by decide +kernel
theorem dX10_event_28 : decode cX10_event 28 = .ok (.ireturn, 1) := by decide +kernel
theorem dX10_event_29 : decode cX10_event 29 = .ok (.aload_n 0, 1) := by decide +kernel
theorem dX10_event_30 : decode cX10_event 30 = .ok (.getfield 172, 3) := by decide +kernel
theorem dX10_event_33 : decode cX10_event 33 = .ok (.bipush 8, 2) := by decide +kernel
theorem dX10_event_35 : decode cX10_event 35 = .ok (.if_icmp .ne 6, 3) := by decide +kernel
theorem dX10_event_38 : decode cX10_event 38 = .ok (.bipush (-4), 2) := by decide +kernel
theorem dX10_event_40 : decode cX10_event 40 = .ok (.ireturn, 1) := by decide +kernel
theorem dX10_event_41 : decode cX10_event 41 = .ok (.aload_n 0, 1) := by decide +kernel
theorem dX10_event_42 : decode cX10_event 42 = .ok (.iload_n 1, 1) := by decide +kernel
theorem dX10_event_43 : decode cX10_event 43 = .ok (.iload_n 2, 1) := by decide +kernel
theorem dX10_event_44 : decode cX10_event 44 = .ok (.iload_n 3, 1) := by decide +kernel
theorem dX10_event_45 : decode cX10_event 45 = .ok (.invokevirtual 181, 3) := by decide +kernel
theorem dX10_event_48 : decode cX10_event 48 = .ok (.aload_n 0, 1) := by decide +kernel
theorem dX10_event_49 : decode cX10_event 49 = .ok (.getfield 172, 3) := by decide +kernel
theorem dX10_event_52 : decode cX10_event 52 = .ok (.ireturn, 1) := by decide +kernel
noncomputable def F10_event (v1 : Int32) (v2 : Int32) (v3 : Int32) (mm : Mem) : Option (Int32 × Mem) :=
  ((F10_in v1.toInt64 (0 : Int64) (2 : Int64)).bind (fun q5 => (if q5 = (0 : Int32) then some ((-2 : Int32), mm) else ((F10_isHour v2).bind (fun q6 => (if q6 = (0 : Int32) then some ((-2 : Int32), mm) else ((F10_isEight v3).bind (fun q7 => (if q7 = (0 : Int32) then some ((-2 : Int32), mm) else (if (mm 0 11) = (8 : Int32) then some ((-4 : Int32), mm) else ((F10_puts v1 v2 v3 mm).bind (fun q8 => (some ((q8 0 11), q8))))))))))))))
set_option maxHeartbeats 4000000 in
set_option maxRecDepth 100000 in
theorem kX10_event (l : Launch) (g : GG) (v1 : Int32) (v2 : Int32) (v3 : Int32) (mc mm : Mem) (q : Int32 × Mem) (hF : F10_event v1 v2 v3 mm = some q) : KI l yX10_event cX10_event 4 .int 2 45 g [.ref (g.1 108), .int v1, .int v2, .int v3] mc mm q.1 (mc, q.2) := by
  intro sz
  refine x_start (Qc := fun z => QI g z q.1 (mc, q.2)) (by decide +kernel) (Nat.le_of_ble_eq_true rfl) ?_ sz
  intro p e s m args below meth c ls Z hr hlk hP hl
  have hx := Z.1.1
  have hb := Z.1.2.1
  have hown := Z.1.2.2.2.1
  have hts := Z.1.2.2.2.2
  have hS : va_S (AA g s.heap.size) s.heap s.heap [] := va_S.rf
  have hl : lv_has ls 4 [(0, .ref (g.1 108)), (1, .int v1), (2, .int v2), (3, .int v3)] := hl
  unfold F10_event at hF
  refine lv_iload_n hx hb dX10_event_0 rfl (lv_at hl 1 rfl) ?_
  refine lv_i2l (v := v1.toInt64) hx hb dX10_event_1 rfl ?_
  refine lv_lconst (v := (0 : Int64)) hx hb dX10_event_2 lc_0 ?_
  refine lv_ldc2 (v := (2 : Int64)) hx hb hown (hts _ wd_18_3) dX10_event_3 ?_
  obtain ⟨q5, hq5, hF⟩ := bd_ok hF
  refine xX10_in Z hP hS hq5 wd_13_8 hl.1 (Nat.le_of_ble_eq_true rfl) ⟨Nat.le_of_ble_eq_true rfl, Nat.le_of_ble_eq_true rfl⟩ dX10_event_6 (fun H locs hP hS => ?_)
  refine lv_if_eq (tgt := 26) hx hb dX10_event_9 rfl (fun hc => ?_) (fun hc => ?_)
  · have hF := (if_pos hc).symm.trans hF
    refine lv_bipush (v := (-2 : Int32)) hx hb dX10_event_26 bp_m2 ?_
    exact ret_IWM Z hr hlk hP hS hF dX10_event_28
  · have hF := (if_neg hc).symm.trans hF
    refine lv_iload_n hx hb dX10_event_12 rfl (lv_at hl 2 rfl) ?_
    obtain ⟨q6, hq6, hF⟩ := bd_ok hF
    refine xX10_isHour Z hP hS hq6 wd_18_5 hl.1 (Nat.le_of_ble_eq_true rfl) ⟨Nat.le_of_ble_eq_true rfl, Nat.le_of_ble_eq_true rfl⟩ dX10_event_13 (fun H locs hP hS => ?_)
    refine lv_if_eq (tgt := 26) hx hb dX10_event_16 rfl (fun hc => ?_) (fun hc => ?_)
    · have hF := (if_pos hc).symm.trans hF
      refine lv_bipush (v := (-2 : Int32)) hx hb dX10_event_26 bp_m2 ?_
      exact ret_IWM Z hr hlk hP hS hF dX10_event_28
    · have hF := (if_neg hc).symm.trans hF
      refine lv_iload_n hx hb dX10_event_19 rfl (lv_at hl 3 rfl) ?_
      obtain ⟨q7, hq7, hF⟩ := bd_ok hF
      refine xX10_isEight Z hP hS hq7 wd_18_9 hl.1 (Nat.le_of_ble_eq_true rfl) ⟨Nat.le_of_ble_eq_true rfl, Nat.le_of_ble_eq_true rfl⟩ dX10_event_20 (fun H locs hP hS => ?_)
      refine lv_if_ne (tgt := 29) hx hb dX10_event_23 rfl (fun hc => ?_) (fun hc => ?_)
      · have hF := (if_neg hc).symm.trans hF
        refine lv_aload_n hx hb dX10_event_29 rfl (lv_at hl 0 rfl) ?_
        refine gf10_11 Z hP wd_18_4 dX10_event_30 ?_
        refine lv_bipush (v := (8 : Int32)) hx hb dX10_event_33 bp_8 ?_
        refine lv_icmp_ne (tgt := 41) hx hb dX10_event_35 rfl (fun hc => ?_) (fun hc => ?_)
        · have hF := (if_neg hc).symm.trans hF
          refine lv_aload_n hx hb dX10_event_41 rfl (lv_at hl 0 rfl) ?_
          refine lv_iload_n hx hb dX10_event_42 rfl (lv_at hl 1 rfl) ?_
          refine lv_iload_n hx hb dX10_event_43 rfl (lv_at hl 2 rfl) ?_
          refine lv_iload_n hx hb dX10_event_44 rfl (lv_at hl 3 rfl) ?_
          obtain ⟨q8, hq8, hF⟩ := bd_ok hF
          refine xX10_puts Z hP hS hq8 wd_18_12 hl.1 (Nat.le_of_ble_eq_true rfl) ⟨Nat.le_of_ble_eq_true rfl, Nat.le_of_ble_eq_true rfl⟩ dX10_event_45 (fun H locs hP hS => ?_)
          refine lv_aload_n hx hb dX10_event_48 rfl (lv_at hl 0 rfl) ?_
          refine gf10_11 Z hP wd_18_4 dX10_event_49 ?_
          exact ret_IWM Z hr hlk hP hS hF dX10_event_52
        · have hF := (if_pos hc).symm.trans hF
          refine lv_bipush (v := (-4 : Int32)) hx hb dX10_event_38 bp_m4 ?_
          exact ret_IWM Z hr hlk hP hS hF dX10_event_40
      · have hF := (if_pos hc).symm.trans hF
        refine lv_bipush (v := (-2 : Int32)) hx hb dX10_event_26 bp_m2 ?_
        exact ret_IWM Z hr hlk hP hS hF dX10_event_28
theorem xX10_event {p : Program} {l : Launch} {e : Env} {R : Room} {s : State} {m : MethodId} {args : Array Value} {below : List Frame} {meth : Method} {c : Code} {H : Heap} {locs : List Loc} {Q : State → Prop} {cc : ByteArray} {nL : Nat} {own : String} {g : GG} {pc index : Nat} {ls : Array Slot} {rest : List Value} {mc mm : Mem} (Z : ZZ p s m args c cc nL own g) (hP : va_P g.2.2.1 vwCl (wL g mc mm) H) (hS : va_S (AA g s.heap.size) s.heap H locs) {v1 : Int32} {v2 : Int32} {v3 : Int32} {q : Int32 × Mem} (hq : F10_event v1 v2 v3 mm = some q) (hlk : Cond.methodLink own index yX10_event ∈ wsL_law) (hsz : ls.size = nL) (hro : (rest.map fun v => v.category).sum ≤ 8) (hR : 2 + 1 ≤ R.frames ∧ 8 + (4 + 11) + 45 ≤ R.locals) (hdg : decode cc pc = .ok (.invokevirtual index, 3)) (kk : ∀ (H : Heap) (locs : List Loc), va_P g.2.2.1 vwCl (wL g mc q.2) H → va_S (AA g s.heap.size) s.heap H locs → W p l e R s m args below meth c H locs 0 0 Q (F0 m (pc + 3) ls (.int q.1 :: rest))) : W p l e R s m args below meth c H locs 0 0 Q (F0 m pc ls (.int v3 :: .int v2 :: .int v1 :: .ref (g.1 108) :: rest)) :=
  x_VI Z hP hS (kX10_event l g v1 v2 v3 mc mm q hq) (mO) (ci := 10) (by decide) rfl rfl mf_X10_event mv_X10_event hlk rfl rfl hsz hro hR hdg kk
theorem dX10_back_0 : decode cX10_back 0 = .ok (.aload_n 0, 1) := by decide +kernel
theorem dX10_back_1 : decode cX10_back 1 = .ok (.getfield 172, 3) := by decide +kernel
theorem dX10_back_4 : decode cX10_back 4 = .ok (.ifCond .ne 6, 3) := by decide +kernel
theorem dX10_back_7 : decode cX10_back 7 = .ok (.bipush (-3), 2) := by decide +kernel
theorem dX10_back_9 : decode cX10_back 9 = .ok (.ireturn, 1) := by decide +kernel
theorem dX10_back_10 : decode cX10_back 10 = .ok (.aload_n 0, 1) := by decide +kernel
theorem dX10_back_11 : decode cX10_back 11 = .ok (.dup, 1) := by decide +kernel
theorem dX10_back_12 : decode cX10_back 12 = .ok (.getfield 172, 3) := by decide +kernel
theorem dX10_back_15 : decode cX10_back 15 = .ok (.iconst 1, 1) := by decide +kernel
theorem dX10_back_16 : decode cX10_back 16 = .ok (.isub, 1) := by decide +kernel
theorem dX10_back_17 : decode cX10_back 17 = .ok (.putfield 172, 3) := by decide +kernel
theorem dX10_back_20 : decode cX10_back 20 = .ok (.aload_n 0, 1) := by decide +kernel
theorem dX10_back_21 : decode cX10_back 21 = .ok (.getfield 172, 3) := by decide +kernel
theorem dX10_back_24 : decode cX10_back 24 = .ok (.ireturn, 1) := by decide +kernel
noncomputable def F10_back (mm : Mem) : Option (Int32 × Mem) :=
  (if (mm 0 11) = (0 : Int32) then some ((-3 : Int32), mm) else (lt (mset mm 0 11 ((mm 0 11) - (1 : Int32))) (fun M2 => (some ((M2 0 11), M2)))))
set_option maxHeartbeats 4000000 in
set_option maxRecDepth 100000 in
theorem kX10_back (l : Launch) (g : GG) (mc mm : Mem) (q : Int32 × Mem) (hF : F10_back mm = some q) : KI l yX10_back cX10_back 1 .int 0 0 g [.ref (g.1 108)] mc mm q.1 (mc, q.2) := by
  intro sz
  refine x_start (Qc := fun z => QI g z q.1 (mc, q.2)) (by decide +kernel) (Nat.le_of_ble_eq_true rfl) ?_ sz
  intro p e s m args below meth c ls Z hr hlk hP hl
  have hx := Z.1.1
  have hb := Z.1.2.1
  have hown := Z.1.2.2.2.1
  have hts := Z.1.2.2.2.2
  have hS : va_S (AA g s.heap.size) s.heap s.heap [] := va_S.rf
  have hl : lv_has ls 1 [(0, .ref (g.1 108))] := hl
  unfold F10_back at hF
  refine lv_aload_n hx hb dX10_back_0 rfl (lv_at hl 0 rfl) ?_
  refine gf10_11 Z hP wd_18_4 dX10_back_1 ?_
  refine lv_if_ne (tgt := 10) hx hb dX10_back_4 rfl (fun hc => ?_) (fun hc => ?_)
  · have hF := (if_neg hc).symm.trans hF
    refine lv_aload_n hx hb dX10_back_10 rfl (lv_at hl 0 rfl) ?_
    refine lv_dup hx hb dX10_back_11 rfl ?_
    refine gf10_11 Z hP wd_18_4 dX10_back_12 ?_
    refine lv_iconst (v := (1 : Int32)) hx hb dX10_back_15 ic_1 ?_
    refine lv_isub hx hb dX10_back_16 ?_
    refine pf10_11 Z hP hS wd_18_4 dX10_back_17 (fun H locs hP hS => ?_)
    refine lv_aload_n hx hb dX10_back_20 rfl (lv_at hl 0 rfl) ?_
    obtain ⟨M2, eM2, hF⟩ := lt_ok hF
    have hP : va_P g.2.2.1 vwCl (wL g mc M2) H := by rw [eM2]; exact hP
    refine gf10_11 Z hP wd_18_4 dX10_back_21 ?_
    exact ret_IWM Z hr hlk hP hS hF dX10_back_24
  · have hF := (if_pos hc).symm.trans hF
    refine lv_bipush (v := (-3 : Int32)) hx hb dX10_back_7 bp_m3 ?_
    exact ret_IWM Z hr hlk hP hS hF dX10_back_9
theorem xX10_back {p : Program} {l : Launch} {e : Env} {R : Room} {s : State} {m : MethodId} {args : Array Value} {below : List Frame} {meth : Method} {c : Code} {H : Heap} {locs : List Loc} {Q : State → Prop} {cc : ByteArray} {nL : Nat} {own : String} {g : GG} {pc index : Nat} {ls : Array Slot} {rest : List Value} {mc mm : Mem} (Z : ZZ p s m args c cc nL own g) (hP : va_P g.2.2.1 vwCl (wL g mc mm) H) (hS : va_S (AA g s.heap.size) s.heap H locs) {q : Int32 × Mem} (hq : F10_back mm = some q) (hlk : Cond.methodLink own index yX10_back ∈ wsL_law) (hsz : ls.size = nL) (hro : (rest.map fun v => v.category).sum ≤ 8) (hR : 0 + 1 ≤ R.frames ∧ 8 + (1 + 11) + 0 ≤ R.locals) (hdg : decode cc pc = .ok (.invokevirtual index, 3)) (kk : ∀ (H : Heap) (locs : List Loc), va_P g.2.2.1 vwCl (wL g mc q.2) H → va_S (AA g s.heap.size) s.heap H locs → W p l e R s m args below meth c H locs 0 0 Q (F0 m (pc + 3) ls (.int q.1 :: rest))) : W p l e R s m args below meth c H locs 0 0 Q (F0 m pc ls (.ref (g.1 108) :: rest)) :=
  x_VI Z hP hS (kX10_back l g mc mm q hq) (mO) (ci := 10) (by decide) rfl rfl mf_X10_back mv_X10_back hlk rfl rfl hsz hro hR hdg kk
theorem dX10_read_0 : decode cX10_read 0 = .ok (.iload_n 1, 1) := by decide +kernel
theorem dX10_read_1 : decode cX10_read 1 = .ok (.invokestatic 92, 3) := by decide +kernel
theorem dX10_read_4 : decode cX10_read 4 = .ok (.ifCond .ne 6, 3) := by decide +kernel
theorem dX10_read_7 : decode cX10_read 7 = .ok (.bipush (-2), 2) := by decide +kernel
theorem dX10_read_9 : decode cX10_read 9 = .ok (.ireturn, 1) := by decide +kernel
theorem dX10_read_10 : decode cX10_read 10 = .ok (.aload_n 0, 1) := by decide +kernel
theorem dX10_read_11 : decode cX10_read 11 = .ok (.getfield 7, 3) := by decide +kernel
theorem dX10_read_14 : decode cX10_read 14 = .ok (.iload_n 1, 1) := by decide +kernel
theorem dX10_read_15 : decode cX10_read 15 = .ok (.iaload, 1) := by decide +kernel
theorem dX10_read_16 : decode cX10_read 16 = .ok (.ifCond .ge 9, 3) := by decide +kernel
theorem dX10_read_19 : decode cX10_read 19 = .ok (.aload_n 0, 1) := by decide +kernel
theorem dX10_read_20 : decode cX10_read 20 = .ok (.iconst 1, 1) := by decide +kernel
theorem dX10_read_21 : decode cX10_read 21 = .ok (.invokevirtual 98, 3) := by decide +kernel
theorem dX10_read_24 : decode cX10_read 24 = .ok (.ireturn, 1) := by decide +kernel
theorem dX10_read_25 : decode cX10_read 25 = .ok (.iconst 0, 1) := by decide +kernel
theorem dX10_read_26 : decode cX10_read 26 = .ok (.istore_n 2, 1) := by decide +kernel
theorem dX10_read_27 : decode cX10_read 27 = .ok (.iconst 1, 1) := by decide +kernel
theorem dX10_read_28 : decode cX10_read 28 = .ok (.istore_n 3, 1) := by decide +kernel
theorem dX10_read_29 : decode cX10_read 29 = .ok (.iload_n 3, 1) := by decide +kernel
theorem dX10_read_30 : decode cX10_read 30 = .ok (.ifCond .eq 80, 3) := by decide +kernel
theorem dX10_read_33 : decode cX10_read 33 = .ok (.iconst 3, 1) := by decide +kernel
theorem dX10_read_34 : decode cX10_read 34 = .ok (.iload_n 2, 1) := by decide +kernel
theorem dX10_read_35 : decode cX10_read 35 = .ok (.imul, 1) := by decide +kernel
theorem dX10_read_36 : decode cX10_read 36 = .ok (.iconst 3, 1) := by decide +kernel
theorem dX10_read_37 : decode cX10_read 37 = .ok (.iadd, 1) := by decide +kernel
theorem dX10_read_38 : decode cX10_read 38 = .ok (.aload_n 0, 1) := by decide +kernel
theorem dX10_read_39 : decode cX10_read 39 = .ok (.getfield 13, 3) := by decide +kernel
theorem dX10_read_42 : decode cX10_read 42 = .ok (.iload_n 1, 1) := by decide +kernel
theorem dX10_read_43 : decode cX10_read 43 = .ok (.iaload, 1) := by decide +kernel
theorem dX10_read_44 : decode cX10_read 44 = .ok (.if_icmp .gt 66, 3) := by decide +kernel
theorem dX10_read_47 : decode cX10_read 47 = .ok (.bipush 60, 2) := by decide +kernel
theorem dX10_read_49 : decode cX10_read 49 = .ok (.iload_n 1, 1) := by decide +kernel
theorem dX10_read_50 : decode cX10_read 50 = .ok (.imul, 1) := by decide +kernel
theorem dX10_read_51 : decode cX10_read 51 = .ok (.iconst 3, 1) := by decide +kernel
theorem dX10_read_52 : decode cX10_read 52 = .ok (.iload_n 2, 1) := by decide +kernel
theorem dX10_read_53 : decode cX10_read 53 = .ok (.imul, 1) := by decide +kernel
theorem dX10_read_54 : decode cX10_read 54 = .ok (.iadd, 1) := by decide +kernel
theorem dX10_read_55 : decode cX10_read 55 = .ok (.istore 4, 2) := by decide +kernel
theorem dX10_read_57 : decode cX10_read 57 = .ok (.aload_n 0, 1) := by decide +kernel
theorem dX10_read_58 : decode cX10_read 58 = .ok (.aload_n 0, 1) := by decide +kernel
theorem dX10_read_59 : decode cX10_read 59 = .ok (.getfield 16, 3) := by decide +kernel
theorem dX10_read_62 : decode cX10_read 62 = .ok (.iload 4, 2) := by decide +kernel
theorem dX10_read_64 : decode cX10_read 64 = .ok (.iaload, 1) := by decide +kernel
theorem dX10_read_65 : decode cX10_read 65 = .ok (.aload_n 0, 1) := by decide +kernel
theorem dX10_read_66 : decode cX10_read 66 = .ok (.getfield 16, 3) := by decide +kernel
theorem dX10_read_69 : decode cX10_read 69 = .ok (.iload 4, 2) := by decide +kernel
theorem dX10_read_71 : decode cX10_read 71 = .ok (.iconst 1, 1) := by decide +kernel
theorem dX10_read_72 : decode cX10_read 72 = .ok (.iadd, 1) := by decide +kernel
theorem dX10_read_73 : decode cX10_read 73 = .ok (.iaload, 1) := by decide +kernel
theorem dX10_read_74 : decode cX10_read 74 = .ok (.aload_n 0, 1) := by decide +kernel
theorem dX10_read_75 : decode cX10_read 75 = .ok (.getfield 16, 3) := by decide +kernel
theorem dX10_read_78 : decode cX10_read 78 = .ok (.iload 4, 2) := by decide +kernel
theorem dX10_read_80 : decode cX10_read 80 = .ok (.iconst 2, 1) := by decide +kernel
theorem dX10_read_81 : decode cX10_read 81 = .ok (.iadd, 1) := by decide +kernel
theorem dX10_read_82 : decode cX10_read 82 = .ok (.iaload, 1) := by decide +kernel
theorem dX10_read_83 : decode cX10_read 83 = .ok (.invokevirtual 185, 3) := by decide +kernel
theorem dX10_read_86 : decode cX10_read 86 = .ok (.ifCond .lt 7, 3) := by decide +kernel
theorem dX10_read_89 : decode cX10_read 89 = .ok (.iconst 1, 1) := by decide +kernel
theorem dX10_read_90 : decode cX10_read 90 = .ok (.goto 4, 3) := by decide +kernel
theorem dX10_read_93 : decode cX10_read 93 = .ok (.iconst 0, 1) := by decide +kernel
theorem dX10_read_94 : decode cX10_read 94 = .ok (.istore_n 3, 1) := by decide +kernel
theorem dX10_read_95 : decode cX10_read 95 = .ok (.iload_n 2, 1) := by decide +kernel
theorem dX10_read_96 : decode cX10_read 96 = .ok (.iload_n 3, 1) := by decide +kernel
theorem dX10_read_97 : decode cX10_read 97 = .ok (.ifCond .eq 7, 3) := by decide +kernel
theorem dX10_read_100 : decode cX10_read 100 = .ok (.iconst 1, 1) := by decide +kernel
theorem dX10_read_101 : decode cX10_read 101 = .ok (.goto 4, 3) := by decide +kernel
theorem dX10_read_104 : decode cX10_read 104 = .ok (.iconst 0, 1) := by decide +kernel
theorem dX10_read_105 : decode cX10_read 105 = .ok (.iadd, 1) := by decide +kernel
theorem dX10_read_106 : decode cX10_read 106 = .ok (.istore_n 2, 1) := by decide +kernel
theorem dX10_read_107 : decode cX10_read 107 = .ok (.goto (-78), 3) := by decide +kernel
theorem dX10_read_110 : decode cX10_read 110 = .ok (.iload_n 2, 1) := by decide +kernel
theorem dX10_read_111 : decode cX10_read 111 = .ok (.ireturn, 1) := by decide +kernel
noncomputable def F10_read_b105 (kh : Int32 → Int32 → Mem → Option (Int32 × Mem)) (v1 : Int32) (a3 : Int32) (s0 : Int32) (s1 : Int32) (M : Mem) : Option (Int32 × Mem) :=
  kh (s0 + s1) a3 M
noncomputable def F10_read_b94 (kh : Int32 → Int32 → Mem → Option (Int32 × Mem)) (v1 : Int32) (a2 : Int32) (s0 : Int32) (M : Mem) : Option (Int32 × Mem) :=
  (if s0 = (0 : Int32) then (F10_read_b105 kh v1) s0 a2 (0 : Int32) M else (F10_read_b105 kh v1) s0 a2 (1 : Int32) M)
noncomputable def F10_read_p29 (kh : Int32 → Int32 → Mem → Option (Int32 × Mem)) (v1 : Int32) (a2 : Int32) (a3 : Int32) (M : Mem) : Option (Int32 × Mem) :=
  (if a3 = (0 : Int32) then some (a2, M) else (ck v1 4 (if (M 2 v1.toNatClampNeg) < (((3 : Int32) * a2) + (3 : Int32)) then some (a2, M) else (ck (((60 : Int32) * v1) + ((3 : Int32) * a2)) 240 (ck ((((60 : Int32) * v1) + ((3 : Int32) * a2)) + (1 : Int32)) 240 (ck ((((60 : Int32) * v1) + ((3 : Int32) * a2)) + (2 : Int32)) 240 ((F10_event (M 3 (((60 : Int32) * v1) + ((3 : Int32) * a2)).toNatClampNeg) (M 3 ((((60 : Int32) * v1) + ((3 : Int32) * a2)) + (1 : Int32)).toNatClampNeg) (M 3 ((((60 : Int32) * v1) + ((3 : Int32) * a2)) + (2 : Int32)).toNatClampNeg) M).bind (fun q13 => (if q13.1 < (0 : Int32) then (F10_read_b94 kh v1) a2 (0 : Int32) q13.2 else (F10_read_b94 kh v1) a2 (1 : Int32) q13.2)))))))))
noncomputable def F10_read_h29 (v1 : Int32) : Nat → Int32 → Int32 → Mem → Option (Int32 × Mem)
  | 0, _, _, _ => none
  | n + 1, a2, a3, M => F10_read_p29 (F10_read_h29 v1 n) v1 a2 a3 M
noncomputable def F10_read (v1 : Int32) (mm : Mem) : Option (Int32 × Mem) :=
  ((F10_isSheet v1).bind (fun q14 => (if q14 = (0 : Int32) then some ((-2 : Int32), mm) else (ck v1 4 (if (0 : Int32) ≤ (mm 1 v1.toNatClampNeg) then (F10_read_h29 v1 FU) (0 : Int32) (1 : Int32) mm else ((F10_finds (1 : Int32) mm).bind (fun q16 => (some (q16.1, q16.2)))))))))
set_option maxHeartbeats 4000000 in
set_option maxRecDepth 100000 in
theorem kX10_read (l : Launch) (g : GG) (v1 : Int32) (mc mm : Mem) (q : Int32 × Mem) (hF : F10_read v1 mm = some q) : KI l yX10_read cX10_read 5 .int 3 68 g [.ref (g.1 108), .int v1] mc mm q.1 (mc, q.2) := by
  intro sz
  refine x_start (Qc := fun z => QI g z q.1 (mc, q.2)) (by decide +kernel) (Nat.le_of_ble_eq_true rfl) ?_ sz
  intro p e s m args below meth c ls Z hr hlk hP hl
  have hx := Z.1.1
  have hb := Z.1.2.1
  have hown := Z.1.2.2.2.1
  have hts := Z.1.2.2.2.2
  have hS : va_S (AA g s.heap.size) s.heap s.heap [] := va_S.rf
  have hl : lv_has ls 5 [(0, .ref (g.1 108)), (1, .int v1)] := hl
  unfold F10_read at hF
  have hL29 : ∀ n : Nat, ∀ (a2 : Int32) (a3 : Int32) (M : Mem), F10_read_h29 v1 n a2 a3 M = some q → ∀ (H : Heap) (locs : List Loc) (ls : Array Slot), lv_has ls 5 [(0, .ref (g.1 108)), (1, .int v1), (2, .int a2), (3, .int a3)] → va_P g.2.2.1 vwCl (wL g mc M) H → va_S (AA g s.heap.size) s.heap H locs → W p l e { frames := 3, cells := 0, slots := 0, locals := 68 } s m args below meth c H locs 0 0 (MQ below (QI g s.heap.size q.1 (mc, q.2)) args s 0 0 (AA g s.heap.size)) (F0 m 29 ls []) := by
    intro n
    induction n with
    | zero => intro a2 a3 M hF H locs ls hl hP hS; exact absurd hF (fun z => nomatch (show (none : Option _) = some q from z))
    | succ n ih =>
      generalize hkh : F10_read_h29 v1 n = kh at ih
      have hb105 : ∀ (a3 : Int32) (s0 : Int32) (s1 : Int32) (M : Mem), F10_read_b105 kh v1 a3 s0 s1 M = some q → ∀ (H : Heap) (locs : List Loc) (ls : Array Slot), lv_has ls 5 [(0, .ref (g.1 108)), (1, .int v1), (3, .int a3)] → va_P g.2.2.1 vwCl (wL g mc M) H → va_S (AA g s.heap.size) s.heap H locs → W p l e { frames := 3, cells := 0, slots := 0, locals := 68 } s m args below meth c H locs 0 0 (MQ below (QI g s.heap.size q.1 (mc, q.2)) args s 0 0 (AA g s.heap.size)) (F0 m 105 ls [.int s1, .int s0]) := by
        intro a3 s0 s1 M hF H locs ls hl hP hS
        unfold F10_read_b105 at hF
        refine lv_iadd hx hb dX10_read_105 ?_
        refine lv_istore_n (lv' := [(2, .int (s0 + s1)), (0, .ref (g.1 108)), (1, .int v1), (3, .int a3)]) hx hb dX10_read_106 rfl hl (Nat.le_of_ble_eq_true rfl) rfl (fun ls hl => ?_)
        refine lv_goto (tgt := 29) hx hb dX10_read_107 rfl ?_
        exact ih _ _ _ hF _ _ _ (lv_sub hl [1, 2, 0, 3] rfl) hP hS
      have hb94 : ∀ (a2 : Int32) (s0 : Int32) (M : Mem), F10_read_b94 kh v1 a2 s0 M = some q → ∀ (H : Heap) (locs : List Loc) (ls : Array Slot), lv_has ls 5 [(0, .ref (g.1 108)), (1, .int v1), (2, .int a2)] → va_P g.2.2.1 vwCl (wL g mc M) H → va_S (AA g s.heap.size) s.heap H locs → W p l e { frames := 3, cells := 0, slots := 0, locals := 68 } s m args below meth c H locs 0 0 (MQ below (QI g s.heap.size q.1 (mc, q.2)) args s 0 0 (AA g s.heap.size)) (F0 m 94 ls [.int s0]) := by
        intro a2 s0 M hF H locs ls hl hP hS
        unfold F10_read_b94 at hF
        refine lv_istore_n (lv' := [(3, .int s0), (0, .ref (g.1 108)), (1, .int v1), (2, .int a2)]) hx hb dX10_read_94 rfl hl (Nat.le_of_ble_eq_true rfl) rfl (fun ls hl => ?_)
        refine lv_iload_n hx hb dX10_read_95 rfl (lv_at hl 3 rfl) ?_
        refine lv_iload_n hx hb dX10_read_96 rfl (lv_at hl 0 rfl) ?_
        refine lv_if_eq (tgt := 104) hx hb dX10_read_97 rfl (fun hc => ?_) (fun hc => ?_)
        · have hF := (if_pos hc).symm.trans hF
          refine lv_iconst (v := (0 : Int32)) hx hb dX10_read_104 ic_0 ?_
          exact hb105 _ _ _ _ hF _ _ _ (lv_sub hl [1, 2, 0] rfl) hP hS
        · have hF := (if_neg hc).symm.trans hF
          refine lv_iconst (v := (1 : Int32)) hx hb dX10_read_100 ic_1 ?_
          refine lv_goto (tgt := 105) hx hb dX10_read_101 rfl ?_
          exact hb105 _ _ _ _ hF _ _ _ (lv_sub hl [1, 2, 0] rfl) hP hS
      intro a2 a3 M hF H locs ls hl hP hS
      have hF : F10_read_p29 (F10_read_h29 v1 n) v1 a2 a3 M = some q := hF
      rw [hkh] at hF
      unfold F10_read_p29 at hF
      refine lv_iload_n hx hb dX10_read_29 rfl (lv_at hl 3 rfl) ?_
      refine lv_if_eq (tgt := 110) hx hb dX10_read_30 rfl (fun hc => ?_) (fun hc => ?_)
      · have hF := (if_pos hc).symm.trans hF
        refine lv_iload_n hx hb dX10_read_110 rfl (lv_at hl 2 rfl) ?_
        exact ret_IWM Z hr hlk hP hS hF dX10_read_111
      · have hF := (if_neg hc).symm.trans hF
        refine lv_iconst (v := (3 : Int32)) hx hb dX10_read_33 ic_3 ?_
        refine lv_iload_n hx hb dX10_read_34 rfl (lv_at hl 2 rfl) ?_
        refine lv_imul hx hb dX10_read_35 ?_
        refine lv_iconst (v := (3 : Int32)) hx hb dX10_read_36 ic_3 ?_
        refine lv_iadd hx hb dX10_read_37 ?_
        refine lv_aload_n hx hb dX10_read_38 rfl (lv_at hl 0 rfl) ?_
        refine gf10_1 Z hP wd_6_5 dX10_read_39 ?_
        refine lv_iload_n hx hb dX10_read_42 rfl (lv_at hl 1 rfl) ?_
        obtain ⟨hi9, hF⟩ := ck_ok hF
        refine rM_ld Z hP 4 2 (by decide +kernel) hi9 dX10_read_43 ?_
        refine lv_icmp_gt (tgt := 110) hx hb dX10_read_44 rfl (fun hc => ?_) (fun hc => ?_)
        · have hF := (if_pos hc).symm.trans hF
          refine lv_iload_n hx hb dX10_read_110 rfl (lv_at hl 2 rfl) ?_
          exact ret_IWM Z hr hlk hP hS hF dX10_read_111
        · have hF := (if_neg hc).symm.trans hF
          refine lv_bipush (v := (60 : Int32)) hx hb dX10_read_47 bp_60 ?_
          refine lv_iload_n hx hb dX10_read_49 rfl (lv_at hl 1 rfl) ?_
          refine lv_imul hx hb dX10_read_50 ?_
          refine lv_iconst (v := (3 : Int32)) hx hb dX10_read_51 ic_3 ?_
          refine lv_iload_n hx hb dX10_read_52 rfl (lv_at hl 2 rfl) ?_
          refine lv_imul hx hb dX10_read_53 ?_
          refine lv_iadd hx hb dX10_read_54 ?_
          refine lv_istore (lv' := [(4, .int (((60 : Int32) * v1) + ((3 : Int32) * a2))), (0, .ref (g.1 108)), (1, .int v1), (2, .int a2), (3, .int a3)]) hx hb dX10_read_55 hl (Nat.le_of_ble_eq_true rfl) rfl (fun ls hl => ?_)
          refine lv_aload_n hx hb dX10_read_57 rfl (lv_at hl 1 rfl) ?_
          refine lv_aload_n hx hb dX10_read_58 rfl (lv_at hl 1 rfl) ?_
          refine gf10_2 Z hP wd_6_6 dX10_read_59 ?_
          refine lv_iload hx hb dX10_read_62 (lv_at hl 0 rfl) ?_
          obtain ⟨hi10, hF⟩ := ck_ok hF
          refine rM_ld Z hP 240 3 (by decide +kernel) hi10 dX10_read_64 ?_
          refine lv_aload_n hx hb dX10_read_65 rfl (lv_at hl 1 rfl) ?_
          refine gf10_2 Z hP wd_6_6 dX10_read_66 ?_
          refine lv_iload hx hb dX10_read_69 (lv_at hl 0 rfl) ?_
          refine lv_iconst (v := (1 : Int32)) hx hb dX10_read_71 ic_1 ?_
          refine lv_iadd hx hb dX10_read_72 ?_
          obtain ⟨hi11, hF⟩ := ck_ok hF
          refine rM_ld Z hP 240 3 (by decide +kernel) hi11 dX10_read_73 ?_
          refine lv_aload_n hx hb dX10_read_74 rfl (lv_at hl 1 rfl) ?_
          refine gf10_2 Z hP wd_6_6 dX10_read_75 ?_
          refine lv_iload hx hb dX10_read_78 (lv_at hl 0 rfl) ?_
          refine lv_iconst (v := (2 : Int32)) hx hb dX10_read_80 ic_2 ?_
          refine lv_iadd hx hb dX10_read_81 ?_
          obtain ⟨hi12, hF⟩ := ck_ok hF
          refine rM_ld Z hP 240 3 (by decide +kernel) hi12 dX10_read_82 ?_
          obtain ⟨q13, hq13, hF⟩ := bd_ok hF
          refine xX10_event Z hP hS hq13 wd_20_5 hl.1 (Nat.le_of_ble_eq_true rfl) ⟨Nat.le_of_ble_eq_true rfl, Nat.le_of_ble_eq_true rfl⟩ dX10_read_83 (fun H locs hP hS => ?_)
          refine lv_if_lt (tgt := 93) hx hb dX10_read_86 rfl (fun hc => ?_) (fun hc => ?_)
          · have hF := (if_pos hc).symm.trans hF
            refine lv_iconst (v := (0 : Int32)) hx hb dX10_read_93 ic_0 ?_
            exact hb94 _ _ _ hF _ _ _ (lv_sub hl [1, 2, 3] rfl) hP hS
          · have hF := (if_neg hc).symm.trans hF
            refine lv_iconst (v := (1 : Int32)) hx hb dX10_read_89 ic_1 ?_
            refine lv_goto (tgt := 94) hx hb dX10_read_90 rfl ?_
            exact hb94 _ _ _ hF _ _ _ (lv_sub hl [1, 2, 3] rfl) hP hS
  refine lv_iload_n hx hb dX10_read_0 rfl (lv_at hl 1 rfl) ?_
  obtain ⟨q14, hq14, hF⟩ := bd_ok hF
  refine xX10_isSheet Z hP hS hq14 wd_19_21 hl.1 (Nat.le_of_ble_eq_true rfl) ⟨Nat.le_of_ble_eq_true rfl, Nat.le_of_ble_eq_true rfl⟩ dX10_read_1 (fun H locs hP hS => ?_)
  refine lv_if_ne (tgt := 10) hx hb dX10_read_4 rfl (fun hc => ?_) (fun hc => ?_)
  · have hF := (if_neg hc).symm.trans hF
    refine lv_aload_n hx hb dX10_read_10 rfl (lv_at hl 0 rfl) ?_
    refine gf10_0 Z hP wd_6_4 dX10_read_11 ?_
    refine lv_iload_n hx hb dX10_read_14 rfl (lv_at hl 1 rfl) ?_
    obtain ⟨hi15, hF⟩ := ck_ok hF
    refine rM_ld Z hP 4 1 (by decide +kernel) hi15 dX10_read_15 ?_
    refine lv_if_ge (tgt := 25) hx hb dX10_read_16 rfl (fun hc => ?_) (fun hc => ?_)
    · have hF := (if_pos hc).symm.trans hF
      refine lv_iconst (v := (0 : Int32)) hx hb dX10_read_25 ic_0 ?_
      refine lv_istore_n (lv' := [(2, .int (0 : Int32)), (0, .ref (g.1 108)), (1, .int v1)]) hx hb dX10_read_26 rfl hl (Nat.le_of_ble_eq_true rfl) rfl (fun ls hl => ?_)
      refine lv_iconst (v := (1 : Int32)) hx hb dX10_read_27 ic_1 ?_
      refine lv_istore_n (lv' := [(3, .int (1 : Int32)), (2, .int (0 : Int32)), (0, .ref (g.1 108)), (1, .int v1)]) hx hb dX10_read_28 rfl hl (Nat.le_of_ble_eq_true rfl) rfl (fun ls hl => ?_)
      exact (hL29 FU) _ _ _ hF _ _ _ (lv_sub hl [2, 3, 1, 0] rfl) hP hS
    · have hF := (if_neg hc).symm.trans hF
      refine lv_aload_n hx hb dX10_read_19 rfl (lv_at hl 0 rfl) ?_
      refine lv_iconst (v := (1 : Int32)) hx hb dX10_read_20 ic_1 ?_
      obtain ⟨q16, hq16, hF⟩ := bd_ok hF
      refine xX10_finds Z hP hS hq16 wd_20_0 hl.1 (Nat.le_of_ble_eq_true rfl) ⟨Nat.le_of_ble_eq_true rfl, Nat.le_of_ble_eq_true rfl⟩ dX10_read_21 (fun H locs hP hS => ?_)
      exact ret_IWM Z hr hlk hP hS hF dX10_read_24
  · have hF := (if_pos hc).symm.trans hF
    refine lv_bipush (v := (-2 : Int32)) hx hb dX10_read_7 bp_m2 ?_
    exact ret_IWM Z hr hlk hP hS hF dX10_read_9
theorem xX10_read {p : Program} {l : Launch} {e : Env} {R : Room} {s : State} {m : MethodId} {args : Array Value} {below : List Frame} {meth : Method} {c : Code} {H : Heap} {locs : List Loc} {Q : State → Prop} {cc : ByteArray} {nL : Nat} {own : String} {g : GG} {pc index : Nat} {ls : Array Slot} {rest : List Value} {mc mm : Mem} (Z : ZZ p s m args c cc nL own g) (hP : va_P g.2.2.1 vwCl (wL g mc mm) H) (hS : va_S (AA g s.heap.size) s.heap H locs) {v1 : Int32} {q : Int32 × Mem} (hq : F10_read v1 mm = some q) (hlk : Cond.methodLink own index yX10_read ∈ wsL_law) (hsz : ls.size = nL) (hro : (rest.map fun v => v.category).sum ≤ 8) (hR : 3 + 1 ≤ R.frames ∧ 8 + (5 + 11) + 68 ≤ R.locals) (hdg : decode cc pc = .ok (.invokevirtual index, 3)) (kk : ∀ (H : Heap) (locs : List Loc), va_P g.2.2.1 vwCl (wL g mc q.2) H → va_S (AA g s.heap.size) s.heap H locs → W p l e R s m args below meth c H locs 0 0 Q (F0 m (pc + 3) ls (.int q.1 :: rest))) : W p l e R s m args below meth c H locs 0 0 Q (F0 m pc ls (.int v1 :: .ref (g.1 108) :: rest)) :=
  x_VI Z hP hS (kX10_read l g v1 mc mm q hq) (mO) (ci := 10) (by decide) rfl rfl mf_X10_read mv_X10_read hlk rfl rfl hsz hro hR hdg kk
