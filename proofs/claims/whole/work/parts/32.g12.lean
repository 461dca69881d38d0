theorem dX10_saying_0 : decode cX10_saying 0 = .ok (.aload_n 0, 1) := by decide +kernel
theorem dX10_saying_1 : decode cX10_saying 1 = .ok (.invokevirtual 144, 3) := by decide +kernel
theorem dX10_saying_4 : decode cX10_saying 4 = .ok (.pop, 1) := by decide +kernel
theorem dX10_saying_5 : decode cX10_saying 5 = .ok (.aload_n 0, 1) := by decide +kernel
theorem dX10_saying_6 : decode cX10_saying 6 = .ok (.iload_n 1, 1) := by decide +kernel
theorem dX10_saying_7 : decode cX10_saying 7 = .ok (.invokevirtual 166, 3) := by decide +kernel
theorem dX10_saying_10 : decode cX10_saying 10 = .ok (.ifCond .eq 24, 3) := by decide +kernel
theorem dX10_saying_13 : decode cX10_saying 13 = .ok (.iload_n 2, 1) := by decide +kernel
theorem dX10_saying_14 : decode cX10_saying 14 = .ok (.i2l, 1) := by decide +kernel
theorem dX10_saying_15 : decode cX10_saying 15 = .ok (.lconst 0, 1) := by decide +kernel
theorem dX10_saying_16 : decode cX10_saying 16 = .ok (.ldc2_w 152, 3) := by decide +kernel
theorem dX10_saying_19 : decode cX10_saying 19 = .ok (.invokestatic 83, 3) := by decide +kernel
theorem dX10_saying_22 : decode cX10_saying 22 = .ok (.ifCond .eq 12, 3) := by decide +kernel
theorem dX10_saying_25 : decode cX10_saying 25 = .ok (.aload_n 0, 1) := by decide +kernel
theorem dX10_saying_26 : decode cX10_saying 26 = .ok (.iload_n 1, 1) := by decide +kernel
theorem dX10_saying_27 : decode cX10_saying 27 = .ok (.iload_n 2, 1) := by decide +kernel
theorem dX10_saying_28 : decode cX10_saying 28 = .ok (.invokevirtual 169, 3) := by decide +kernel
theorem dX10_saying_31 : decode cX10_saying 31 = .ok (.goto 5, 3) := by decide +kernel
theorem dX10_saying_34 : decode cX10_saying 34 = .ok (.bipush (-2), 2) := by decide +kernel
theorem dX10_saying_36 : decode cX10_saying 36 = .ok (.ireturn, 1) := by decide +kernel
noncomputable def F10_saying_b34 (v1 : Int32) (v2 : Int32) (M : Mem) : Option (Int32 × Mem) :=
  some ((-2 : Int32), M)
noncomputable def F10_saying (v1 : Int32) (v2 : Int32) (mm : Mem) : Option (Int32 × Mem) :=
  ((F10_readsSayings mm).bind (fun q5 => ((F10_isSaying v1 q5.2).bind (fun q6 => (if q6 = (0 : Int32) then (F10_saying_b34 v1 v2) q5.2 else ((F10_in v2.toInt64 (0 : Int64) (7 : Int64)).bind (fun q7 => (if q7 = (0 : Int32) then (F10_saying_b34 v1 v2) q5.2 else ((F10_sayingBy v1 v2 q5.2).bind (fun q8 => (some (q8, q5.2))))))))))))
set_option maxHeartbeats 4000000 in
set_option maxRecDepth 100000 in
theorem kX10_saying (l : Launch) (g : GG) (v1 : Int32) (v2 : Int32) (mc mm : Mem) (q : Int32 × Mem) (hF : F10_saying v1 v2 mm = some q) : KI l yX10_saying cX10_saying 3 .int 3 72 g [.ref (g.1 108), .int v1, .int v2] mc mm q.1 (mc, q.2) := by
  intro sz
  refine x_start (Qc := fun z => QI g z q.1 (mc, q.2)) (by decide +kernel) (Nat.le_of_ble_eq_true rfl) ?_ sz
  intro p e s m args below meth c ls Z hr hlk hP hl
  have hx := Z.1.1
  have hb := Z.1.2.1
  have hown := Z.1.2.2.2.1
  have hts := Z.1.2.2.2.2
  have hS : va_S (AA g s.heap.size) s.heap s.heap [] := va_S.rf
  have hl : lv_has ls 3 [(0, .ref (g.1 108)), (1, .int v1), (2, .int v2)] := hl
  unfold F10_saying at hF
  have hb34 : ∀  (M : Mem), F10_saying_b34 v1 v2 M = some q → ∀ (H : Heap) (locs : List Loc) (ls : Array Slot), lv_has ls 3 [] → va_P g.2.2.1 vwCl (wL g mc M) H → va_S (AA g s.heap.size) s.heap H locs → W p l e { frames := 3, cells := 0, slots := 0, locals := 72 } s m args below meth c H locs 0 0 (MQ below (QI g s.heap.size q.1 (mc, q.2)) args s 0 0 (AA g s.heap.size)) (F0 m 34 ls []) := by
    intro M hF H locs ls hl hP hS
    unfold F10_saying_b34 at hF
    refine lv_bipush (v := (-2 : Int32)) hx hb dX10_saying_34 bp_m2 ?_
    exact ret_IWM Z hr hlk hP hS hF dX10_saying_36
  refine lv_aload_n hx hb dX10_saying_0 rfl (lv_at hl 0 rfl) ?_
  obtain ⟨q5, hq5, hF⟩ := bd_ok hF
  refine xX10_readsSayings Z hP hS hq5 wd_15_1 hl.1 (Nat.le_of_ble_eq_true rfl) ⟨Nat.le_of_ble_eq_true rfl, Nat.le_of_ble_eq_true rfl⟩ dX10_saying_1 (fun H locs hP hS => ?_)
  refine lv_pop hx hb dX10_saying_4 rfl ?_
  refine lv_aload_n hx hb dX10_saying_5 rfl (lv_at hl 0 rfl) ?_
  refine lv_iload_n hx hb dX10_saying_6 rfl (lv_at hl 1 rfl) ?_
  obtain ⟨q6, hq6, hF⟩ := bd_ok hF
  refine xX10_isSaying Z hP hS hq6 wd_17_3 hl.1 (Nat.le_of_ble_eq_true rfl) ⟨Nat.le_of_ble_eq_true rfl, Nat.le_of_ble_eq_true rfl⟩ dX10_saying_7 (fun H locs hP hS => ?_)
  refine lv_if_eq (tgt := 34) hx hb dX10_saying_10 rfl (fun hc => ?_) (fun hc => ?_)
  · have hF := (if_pos hc).symm.trans hF
    exact hb34 _ hF _ _ _ (lv_sub hl [] rfl) hP hS
  · have hF := (if_neg hc).symm.trans hF
    refine lv_iload_n hx hb dX10_saying_13 rfl (lv_at hl 2 rfl) ?_
    refine lv_i2l (v := v2.toInt64) hx hb dX10_saying_14 rfl ?_
    refine lv_lconst (v := (0 : Int64)) hx hb dX10_saying_15 lc_0 ?_
    refine lv_ldc2 (v := (7 : Int64)) hx hb hown (hts _ wd_17_2) dX10_saying_16 ?_
    obtain ⟨q7, hq7, hF⟩ := bd_ok hF
    refine xX10_in Z hP hS hq7 wd_13_8 hl.1 (Nat.le_of_ble_eq_true rfl) ⟨Nat.le_of_ble_eq_true rfl, Nat.le_of_ble_eq_true rfl⟩ dX10_saying_19 (fun H locs hP hS => ?_)
    refine lv_if_eq (tgt := 34) hx hb dX10_saying_22 rfl (fun hc => ?_) (fun hc => ?_)
    · have hF := (if_pos hc).symm.trans hF
      exact hb34 _ hF _ _ _ (lv_sub hl [] rfl) hP hS
    · have hF := (if_neg hc).symm.trans hF
      refine lv_aload_n hx hb dX10_saying_25 rfl (lv_at hl 0 rfl) ?_
      refine lv_iload_n hx hb dX10_saying_26 rfl (lv_at hl 1 rfl) ?_
      refine lv_iload_n hx hb dX10_saying_27 rfl (lv_at hl 2 rfl) ?_
      obtain ⟨q8, hq8, hF⟩ := bd_ok hF
      refine xX10_sayingBy Z hP hS hq8 wd_17_7 hl.1 (Nat.le_of_ble_eq_true rfl) ⟨Nat.le_of_ble_eq_true rfl, Nat.le_of_ble_eq_true rfl⟩ dX10_saying_28 (fun H locs hP hS => ?_)
      refine lv_goto (tgt := 36) hx hb dX10_saying_31 rfl ?_
      exact ret_IWM Z hr hlk hP hS hF dX10_saying_36
theorem xX10_saying {p : Program} {l : Launch} {e : Env} {R : Room} {s : State} {m : MethodId} {args : Array Value} {below : List Frame} {meth : Method} {c : Code} {H : Heap} {locs : List Loc} {Q : State → Prop} {cc : ByteArray} {nL : Nat} {own : String} {g : GG} {pc index : Nat} {ls : Array Slot} {rest : List Value} {mc mm : Mem} (Z : ZZ p s m args c cc nL own g) (hP : va_P g.2.2.1 vwCl (wL g mc mm) H) (hS : va_S (AA g s.heap.size) s.heap H locs) {v1 : Int32} {v2 : Int32} {q : Int32 × Mem} (hq : F10_saying v1 v2 mm = some q) (hlk : Cond.methodLink own index yX10_saying ∈ wsL_law) (hsz : ls.size = nL) (hro : (rest.map fun v => v.category).sum ≤ 8) (hR : 3 + 1 ≤ R.frames ∧ 8 + (3 + 11) + 72 ≤ R.locals) (hdg : decode cc pc = .ok (.invokevirtual index, 3)) (kk : ∀ (H : Heap) (locs : List Loc), va_P g.2.2.1 vwCl (wL g mc q.2) H → va_S (AA g s.heap.size) s.heap H locs → W p l e R s m args below meth c H locs 0 0 Q (F0 m (pc + 3) ls (.int q.1 :: rest))) : W p l e R s m args below meth c H locs 0 0 Q (F0 m pc ls (.int v2 :: .int v1 :: .ref (g.1 108) :: rest)) :=
  x_VI Z hP hS (kX10_saying l g v1 v2 mc mm q hq) (mO) (ci := 10) (by decide) rfl rfl mf_X10_saying mv_X10_saying hlk rfl rfl hsz hro hR hdg kk
theorem dX10_puts_0 : decode cX10_puts 0 = .ok (.aload_n 0, 1) := by decide +kernel
theorem dX10_puts_1 : decode cX10_puts 1 = .ok (.getfield 34, 3) := by decide +kernel
theorem dX10_puts_4 : decode cX10_puts 4 = .ok (.iconst 3, 1) := by decide +kernel
theorem dX10_puts_5 : decode cX10_puts 5 = .ok (.aload_n 0, 1) := by decide +kernel
theorem dX10_puts_6 : decode cX10_puts 6 = .ok (.getfield 172, 3) := by decide +kernel
theorem dX10_puts_9 : decode cX10_puts 9 = .ok (.imul, 1) := by decide +kernel
theorem dX10_puts_10 : decode cX10_puts 10 = .ok (.iload_n 1, 1) := by decide +kernel
theorem dX10_puts_11 : decode cX10_puts 11 = .ok (.iastore, 1) := by decide +kernel
theorem dX10_puts_12 : decode cX10_puts 12 = .ok (.aload_n 0, 1) := by decide +kernel
theorem dX10_puts_13 : decode cX10_puts 13 = .ok (.getfield 34, 3) := by decide +kernel
theorem dX10_puts_16 : decode cX10_puts 16 = .ok (.iconst 3, 1) := by decide +kernel
theorem dX10_puts_17 : decode cX10_puts 17 = .ok (.aload_n 0, 1) := by decide +kernel
theorem dX10_puts_18 : decode cX10_puts 18 = .ok (.getfield 172, 3) := by decide +kernel
theorem dX10_puts_21 : decode cX10_puts 21 = .ok (.imul, 1) := by decide +kernel
theorem dX10_puts_22 : decode cX10_puts 22 = .ok (.iconst 1, 1) := by decide +kernel
theorem dX10_puts_23 : decode cX10_puts 23 = .ok (.iadd, 1) := by decide +kernel
theorem dX10_puts_24 : decode cX10_puts 24 = .ok (.iload_n 2, 1) := by decide +kernel
theorem dX10_puts_25 : decode cX10_puts 25 = .ok (.iastore, 1) := by decide +kernel
theorem dX10_puts_26 : decode cX10_puts 26 = .ok (.aload_n 0, 1) := by decide +kernel
theorem dX10_puts_27 : decode cX10_puts 27 = .ok (.getfield 34, 3) := by decide +kernel
theorem dX10_puts_30 : decode cX10_puts 30 = .ok (.iconst 3, 1) := by decide +kernel
theorem dX10_puts_31 : decode cX10_puts 31 = .ok (.aload_n 0, 1) := by decide +kernel
theorem dX10_puts_32 : decode cX10_puts 32 = .ok (.getfield 172, 3) := by decide +kernel
theorem dX10_puts_35 : decode cX10_puts 35 = .ok (.imul, 1) := by decide +kernel
theorem dX10_puts_36 : decode cX10_puts 36 = .ok (.iconst 2, 1) := by decide +kernel
theorem dX10_puts_37 : decode cX10_puts 37 = .ok (.iadd, 1) := by decide +kernel
theorem dX10_puts_38 : decode cX10_puts 38 = .ok (.iload_n 3, 1) := by decide +kernel
theorem dX10_puts_39 : decode cX10_puts 39 = .ok (.iastore, 1) := by decide +kernel
theorem dX10_puts_40 : decode cX10_puts 40 = .ok (.aload_n 0, 1) := by decide +kernel
theorem dX10_puts_41 : decode cX10_puts 41 = .ok (.dup, 1) := by decide +kernel
theorem dX10_puts_42 : decode cX10_puts 42 = .ok (.getfield 172, 3) := by decide +kernel
theorem dX10_puts_45 : decode cX10_puts 45 = .ok (.iconst 1, 1) := by decide +kernel
theorem dX10_puts_46 : decode cX10_puts 46 = .ok (.iadd, 1) := by decide +kernel
theorem dX10_puts_47 : decode cX10_puts 47 = .ok (.putfield 172, 3) := by decide +kernel
theorem dX10_puts_50 : decode cX10_puts 50 = .ok (.return_, 1) := by decide +kernel
noncomputable def F10_puts (v1 : Int32) (v2 : Int32) (v3 : Int32) (mm : Mem) : Option (Mem) :=
  (ck ((3 : Int32) * (mm 0 11)) 24 (lt (mset mm 9 ((3 : Int32) * (mm 0 11)).toNatClampNeg v1) (fun M8 => (ck (((3 : Int32) * (M8 0 11)) + (1 : Int32)) 24 (lt (mset M8 9 (((3 : Int32) * (M8 0 11)) + (1 : Int32)).toNatClampNeg v2) (fun M10 => (ck (((3 : Int32) * (M10 0 11)) + (2 : Int32)) 24 (lt (mset M10 9 (((3 : Int32) * (M10 0 11)) + (2 : Int32)).toNatClampNeg v3) (fun M12 => (some (mset M12 0 11 ((M12 0 11) + (1 : Int32)))))))))))))
set_option maxHeartbeats 4000000 in
set_option maxRecDepth 100000 in
theorem kX10_puts (l : Launch) (g : GG) (v1 : Int32) (v2 : Int32) (v3 : Int32) (mc mm : Mem) (q : Mem) (hF : F10_puts v1 v2 v3 mm = some q) : KV l yX10_puts cX10_puts 4 0 0 g [.ref (g.1 108), .int v1, .int v2, .int v3] mc mm (mc, q) := by
  intro sz
  refine x_start (Qc := fun z => QV g z (mc, q)) (by decide +kernel) (Nat.le_of_ble_eq_true rfl) ?_ sz
  intro p e s m args below meth c ls Z hr hlk hP hl
  have hx := Z.1.1
  have hb := Z.1.2.1
  have hown := Z.1.2.2.2.1
  have hts := Z.1.2.2.2.2
  have hS : va_S (AA g s.heap.size) s.heap s.heap [] := va_S.rf
  have hl : lv_has ls 4 [(0, .ref (g.1 108)), (1, .int v1), (2, .int v2), (3, .int v3)] := hl
  unfold F10_puts at hF
  refine lv_aload_n hx hb dX10_puts_0 rfl (lv_at hl 0 rfl) ?_
  refine gf10_12 Z hP wd_6_12 dX10_puts_1 ?_
  refine lv_iconst (v := (3 : Int32)) hx hb dX10_puts_4 ic_3 ?_
  refine lv_aload_n hx hb dX10_puts_5 rfl (lv_at hl 0 rfl) ?_
  refine gf10_11 Z hP wd_18_4 dX10_puts_6 ?_
  refine lv_imul hx hb dX10_puts_9 ?_
  refine lv_iload_n hx hb dX10_puts_10 rfl (lv_at hl 1 rfl) ?_
  obtain ⟨hi7, hF⟩ := ck_ok hF
  refine rM_st Z hP hS 24 9 (by decide +kernel) hi7 dX10_puts_11 (fun H locs hP hS => ?_)
  refine lv_aload_n hx hb dX10_puts_12 rfl (lv_at hl 0 rfl) ?_
  refine gf10_12 Z hP wd_6_12 dX10_puts_13 ?_
  refine lv_iconst (v := (3 : Int32)) hx hb dX10_puts_16 ic_3 ?_
  refine lv_aload_n hx hb dX10_puts_17 rfl (lv_at hl 0 rfl) ?_
  obtain ⟨M8, eM8, hF⟩ := lt_ok hF
  have hP : va_P g.2.2.1 vwCl (wL g mc M8) H := by rw [eM8]; exact hP
  refine gf10_11 Z hP wd_18_4 dX10_puts_18 ?_
  refine lv_imul hx hb dX10_puts_21 ?_
  refine lv_iconst (v := (1 : Int32)) hx hb dX10_puts_22 ic_1 ?_
  refine lv_iadd hx hb dX10_puts_23 ?_
  refine lv_iload_n hx hb dX10_puts_24 rfl (lv_at hl 2 rfl) ?_
  obtain ⟨hi9, hF⟩ := ck_ok hF
  refine rM_st Z hP hS 24 9 (by decide +kernel) hi9 dX10_puts_25 (fun H locs hP hS => ?_)
  refine lv_aload_n hx hb dX10_puts_26 rfl (lv_at hl 0 rfl) ?_
  refine gf10_12 Z hP wd_6_12 dX10_puts_27 ?_
  refine lv_iconst (v := (3 : Int32)) hx hb dX10_puts_30 ic_3 ?_
  refine lv_aload_n hx hb dX10_puts_31 rfl (lv_at hl 0 rfl) ?_
  obtain ⟨M10, eM10, hF⟩ := lt_ok hF
  have hP : va_P g.2.2.1 vwCl (wL g mc M10) H := by rw [eM10]; exact hP
  refine gf10_11 Z hP wd_18_4 dX10_puts_32 ?_
  refine lv_imul hx hb dX10_puts_35 ?_
  refine lv_iconst (v := (2 : Int32)) hx hb dX10_puts_36 ic_2 ?_
  refine lv_iadd hx hb dX10_puts_37 ?_
  refine lv_iload_n hx hb dX10_puts_38 rfl (lv_at hl 3 rfl) ?_
  obtain ⟨hi11, hF⟩ := ck_ok hF
  refine rM_st Z hP hS 24 9 (by decide +kernel) hi11 dX10_puts_39 (fun H locs hP hS => ?_)
  refine lv_aload_n hx hb dX10_puts_40 rfl (lv_at hl 0 rfl) ?_
  refine lv_dup hx hb dX10_puts_41 rfl ?_
  obtain ⟨M12, eM12, hF⟩ := lt_ok hF
  have hP : va_P g.2.2.1 vwCl (wL g mc M12) H := by rw [eM12]; exact hP
  refine gf10_11 Z hP wd_18_4 dX10_puts_42 ?_
  refine lv_iconst (v := (1 : Int32)) hx hb dX10_puts_45 ic_1 ?_
  refine lv_iadd hx hb dX10_puts_46 ?_
  refine pf10_11 Z hP hS wd_18_4 dX10_puts_47 (fun H locs hP hS => ?_)
  exact ret_VWM Z hr hlk hP hS hF dX10_puts_50
theorem xX10_puts {p : Program} {l : Launch} {e : Env} {R : Room} {s : State} {m : MethodId} {args : Array Value} {below : List Frame} {meth : Method} {c : Code} {H : Heap} {locs : List Loc} {Q : State → Prop} {cc : ByteArray} {nL : Nat} {own : String} {g : GG} {pc index : Nat} {ls : Array Slot} {rest : List Value} {mc mm : Mem} (Z : ZZ p s m args c cc nL own g) (hP : va_P g.2.2.1 vwCl (wL g mc mm) H) (hS : va_S (AA g s.heap.size) s.heap H locs) {v1 : Int32} {v2 : Int32} {v3 : Int32} {q : Mem} (hq : F10_puts v1 v2 v3 mm = some q) (hlk : Cond.methodLink own index yX10_puts ∈ wsL_law) (hsz : ls.size = nL) (hro : (rest.map fun v => v.category).sum ≤ 8) (hR : 0 + 1 ≤ R.frames ∧ 8 + (4 + 11) + 0 ≤ R.locals) (hdg : decode cc pc = .ok (.invokevirtual index, 3)) (kk : ∀ (H : Heap) (locs : List Loc), va_P g.2.2.1 vwCl (wL g mc q) H → va_S (AA g s.heap.size) s.heap H locs → W p l e R s m args below meth c H locs 0 0 Q (F0 m (pc + 3) ls (rest))) : W p l e R s m args below meth c H locs 0 0 Q (F0 m pc ls (.int v3 :: .int v2 :: .int v1 :: .ref (g.1 108) :: rest)) :=
  x_VV Z hP hS (kX10_puts l g v1 v2 v3 mc mm q hq) (mO) (ci := 10) (by decide) rfl rfl mf_X10_puts mv_X10_puts hlk rfl rfl hsz hro hR hdg kk
theorem dX10_event_0 : decode cX10_event 0 = .ok (.iload_n 1, 1) := by decide +kernel
theorem dX10_event_1 : decode cX10_event 1 = .ok (.i2l, 1) := by decide +kernel
theorem dX10_event_2 : decode cX10_event 2 = .ok (.lconst 0, 1) := by decide +kernel
theorem dX10_event_3 : decode cX10_event 3 = .ok (.ldc2_w 96, 3) := by decide +kernel
theorem dX10_event_6 : decode cX10_event 6 = .ok (.invokestatic 83, 3) := by decide +kernel
theorem dX10_event_9 : decode cX10_event 9 = .ok (.ifCond .eq 17, 3) := by decide +kernel
theorem dX10_event_12 : decode cX10_event 12 = .ok (.iload_n 2, 1) := by decide +kernel
theorem dX10_event_13 : decode cX10_event 13 = .ok (.invokestatic 175, 3) := by decide +kernel
theorem dX10_event_16 : decode cX10_event 16 = .ok (.ifCond .eq 10, 3) := by decide +kernel
theorem dX10_event_19 : decode cX10_event 19 = .ok (.iload_n 3, 1) := by decide +kernel
theorem dX10_event_20 : decode cX10_event 20 = .ok (.invokestatic 178, 3) := by decide +kernel
theorem dX10_event_23 : decode cX10_event 23 = .ok (.ifCond .ne 6, 3) := by decide +kernel
theorem dX10_event_26 : decode cX10_event 26 = .ok (.bipush (-2), 2) := by decide +kernel
theorem dX10_event_28 : decode cX10_event 28 = .ok (.ireturn, 1) := by decide +kernel
theorem dX10_event_29 : decode cX10_event 29 = .ok (.aload_n 0, 1) := by decide +kernel
theorem dX10_event_30 : decode cX10_event 30 = .ok (.getfield 172, 3) := by decide +kernel
theorem dX10_event_33 : decode cX10_event 33 = .ok (.bipush 8, 2) := by decide +kernel
theorem dX10_event_35 : decode cX10_event 35 = .ok (.if_icmp .ne 6, 3) := by decide +kernel
theorem dX10_event_38 : decode cX10_event 38 = .ok (.bipush (-4), 2) := by decide +kernel
theorem dX10_event_40 : decode cX10_event 40 = .ok (.ireturn, 1) := by decide +kernel
theorem dX10_event_41 : decode cX10_event 41 = .ok (.aload_n 0, 1) := by decide +kernel
theorem dX10_event_42 : decode cX10_event 42 = .ok (.iload_n 1, 1) := by decide +kernel
theorem dX10_event_43 : decode cX10_event 43 = .ok (.iload_n 2, 1) := by decide +kernel
theorem dX10_event_44 : decode cX10_event 44 = .ok (.iload_n 3, 1) := by decide +kernel
theorem dX10_event_45 : decode cX10_event 45 = .ok (.invokevirtual 181, 3) := by decide +kernel
theorem dX10_event_48 : decode cX10_event 48 = .ok (.aload_n 0, 1) := by decide +kernel
theorem dX10_event_49 : decode cX10_event 49 = .ok (.getfield 172, 3) := by decide +kernel
theorem dX10_event_52 : decode cX10_event 52 = .ok (.ireturn, 1) := by decide +kernel
noncomputable def F10_event (v1 : Int32) (v2 : Int32) (v3 : Int32) (mm : Mem) : Option (Int32 × Mem) :=
  ((F10_in v1.toInt64 (0 : Int64) (2 : Int64)).bind (fun q5 => (if q5 = (0 : Int32) then some ((-2 : Int32), mm) else ((F10_isHour v2).bind (fun q6 => (if q6 = (0 : Int32) then some ((-2 : Int32), mm) else ((F10_isEight v3).bind (fun q7 => (if q7 = (0 : Int32) then some ((-2 : Int32), mm) else (if (mm 0 11) = (8 : Int32) then some ((-4 : Int32), mm) else ((F10_puts v1 v2 v3 mm).bind (fun q8 => (some ((q8 0 11), q8))))))))))))))
set_option maxHeartbeats 4000000 in
set_option maxRecDepth 100000 in
theorem kX10_event (l : Launch) (g : GG) (v1 : Int32) (v2 : Int32) (v3 : Int32) (mc mm : Mem) (q : Int32 × Mem) (hF : F10_event v1 v2 v3 mm = some q) : KI l yX10_event cX10_event 4 .int 2 45 g [.ref (g.1 108), .int v1, .int v2, .int v3] mc mm q.1 (mc, q.2) := by
  intro sz
  refine x_start (Qc := fun z => QI g z q.1 (mc, q.2)) (by decide +kernel) (Nat.le_of_ble_eq_true rfl) ?_ sz
  intro p e s m args below meth c ls Z hr hlk hP hl
  have hx := Z.1.1
  have hb := Z.1.2.1
  have hown := Z.1.2.2.2.1
  have hts := Z.1.2.2.2.2
  have hS : va_S (AA g s.heap.size) s.heap s.heap [] := va_S.rf
  have hl : lv_has ls 4 [(0, .ref (g.1 108)), (1, .int v1), (2, .int v2), (3, .int v3)] := hl
  unfold F10_event at hF
  refine lv_iload_n hx hb dX10_event_0 rfl (lv_at hl 1 rfl) ?_
  refine lv_i2l (v := v1.toInt64) hx hb dX10_event_1 rfl ?_
  refine lv_lconst (v := (0 : Int64)) hx hb dX10_event_2 lc_0 ?_
  refine lv_ldc2 (v := (2 : Int64)) hx hb hown (hts _ wd_18_3) dX10_event_3 ?_
  obtain ⟨q5, hq5, hF⟩ := bd_ok hF
  refine xX10_in Z hP hS hq5 wd_13_8 hl.1 (Nat.le_of_ble_eq_true rfl) ⟨Nat.le_of_ble_eq_true rfl, Nat.le_of_ble_eq_true rfl⟩ dX10_event_6 (fun H locs hP hS => ?_)
  refine lv_if_eq (tgt := 26) hx hb dX10_event_9 rfl (fun hc => ?_) (fun hc => ?_)
  · have hF := (if_pos hc).symm.trans hF
    refine lv_bipush (v := (-2 : Int32)) hx hb dX10_event_26 bp_m2 ?_
    exact ret_IWM Z hr hlk hP hS hF dX10_event_28
  · have hF := (if_neg hc).symm.trans hF
    refine lv_iload_n hx hb dX10_event_12 rfl (lv_at hl 2 rfl) ?_
    obtain ⟨q6, hq6, hF⟩ := bd_ok hF
    refine xX10_isHour Z hP hS hq6 wd_18_5 hl.1 (Nat.le_of_ble_eq_true rfl) ⟨Nat.le_of_ble_eq_true rfl, Nat.le_of_ble_eq_true rfl⟩ dX10_event_13 (fun H locs hP hS => ?_)
    refine lv_if_eq (tgt := 26) hx hb dX10_event_16 rfl (fun hc => ?_) (fun hc => ?_)
    · have hF := (if_pos hc).symm.trans hF
      refine lv_bipush (v := (-2 : Int32)) hx hb dX10_event_26 bp_m2 ?_
      exact ret_IWM Z hr hlk hP hS hF dX10_event_28
    · have hF := (if_neg hc).symm.trans hF
      refine lv_iload_n hx hb dX10_event_19 rfl (lv_at hl 3 rfl) ?_
      obtain ⟨q7, hq7, hF⟩ := bd_ok hF
      refine xX10_isEight Z hP hS hq7 wd_18_9 hl.1 (Nat.le_of_ble_eq_true rfl) ⟨Nat.le_of_ble_eq_true rfl, Nat.le_of_ble_eq_true rfl⟩ dX10_event_20 (fun H locs hP hS => ?_)
      refine lv_if_ne (tgt := 29) hx hb dX10_event_23 rfl (fun hc => ?_) (fun hc => ?_)
      · have hF := (if_neg hc).symm.trans hF
        refine lv_aload_n hx hb dX10_event_29 rfl (lv_at hl 0 rfl) ?_
        refine gf10_11 Z hP wd_18_4 dX10_event_30 ?_
        refine lv_bipush (v := (8 : Int32)) hx hb dX10_event_33 bp_8 ?_
        refine lv_icmp_ne (tgt := 41) hx hb dX10_event_35 rfl (fun hc => ?_) (fun hc => ?_)
        · have hF := (if_neg hc).symm.trans hF
          refine lv_aload_n hx hb dX10_event_41 rfl (lv_at hl 0 rfl) ?_
          refine lv_iload_n hx hb dX10_event_42 rfl (lv_at hl 1 rfl) ?_
          refine lv_iload_n hx hb dX10_event_43 rfl (lv_at hl 2 rfl) ?_
          refine lv_iload_n hx hb dX10_event_44 rfl (lv_at hl 3 rfl) ?_
          obtain ⟨q8, hq8, hF⟩ := bd_ok hF
          refine xX10_puts Z hP hS hq8 wd_18_12 hl.1 (Nat.le_of_ble_eq_true rfl) ⟨Nat.le_of_ble_eq_true rfl, Nat.le_of_ble_eq_true rfl⟩ dX10_event_45 (fun H locs hP hS => ?_)
          refine lv_aload_n hx hb dX10_event_48 rfl (lv_at hl 0 rfl) ?_
          refine gf10_11 Z hP wd_18_4 dX10_event_49 ?_
          exact ret_IWM Z hr hlk hP hS hF dX10_event_52
        · have hF := (if_pos hc).symm.trans hF
          refine lv_bipush (v := (-4 : Int32)) hx hb dX10_event_38 bp_m4 ?_
          exact ret_IWM Z hr hlk hP hS hF dX10_event_40
      · have hF := (if_pos hc).symm.trans hF
        refine lv_bipush (v := (-2 : Int32)) hx hb dX10_event_26 bp_m2 ?_
        exact ret_IWM Z hr hlk hP hS hF dX10_event_28
theorem xX10_event {p : Program} {l : Launch} {e : Env} {R : Room} {s : State} {m : MethodId} {args : Array Value} {below : List Frame} {meth : Method} {c : Code} {H : Heap} {locs : List Loc} {Q : State → Prop} {cc : ByteArray} {nL : Nat} {own : String} {g : GG} {pc index : Nat} {ls : Array Slot} {rest : List Value} {mc mm : Mem} (Z : ZZ p s m args c cc nL own g) (hP : va_P g.2.2.1 vwCl (wL g mc mm) H) (hS : va_S (AA g s.heap.size) s.heap H locs) {v1 : Int32} {v2 : Int32} {v3 : Int32} {q : Int32 × Mem} (hq : F10_event v1 v2 v3 mm = some q) (hlk : Cond.methodLink own index yX10_event ∈ wsL_law) (hsz : ls.size = nL) (hro : (rest.map fun v => v.category).sum ≤ 8) (hR : 2 + 1 ≤ R.frames ∧ 8 + (4 + 11) + 45 ≤ R.locals) (hdg : decode cc pc = .ok (.invokevirtual index, 3)) (kk : ∀ (H : Heap) (locs : List Loc), va_P g.2.2.1 vwCl (wL g mc q.2) H → va_S (AA g s.heap.size) s.heap H locs → W p l e R s m args below meth c H locs 0 0 Q (F0 m (pc + 3) ls (.int q.1 :: rest))) : W p l e R s m args below meth c H locs 0 0 Q (F0 m pc ls (.int v3 :: .int v2 :: .int v1 :: .ref (g.1 108) :: rest)) :=
  x_VI Z hP hS (kX10_event l g v1 v2 v3 mc mm q hq) (mO) (ci := 10) (by decide) rfl rfl mf_X10_event mv_X10_event hlk rfl rfl hsz hro hR hdg kk
theorem dX10_back_0 : decode cX10_back 0 = .ok (.aload_n 0, 1) := by decide +kernel
theorem dX10_back_1 : decode cX10_back 1 = .ok (.getfield 172, 3) := by decide +kernel
theorem dX10_back_4 : decode cX10_back 4 = .ok (.ifCond .ne 6, 3) := by decide +kernel
theorem dX10_back_7 : decode cX10_back 7 = .ok (.bipush (-3), 2) := by decide +kernel
theorem dX10_back_9 : decode cX10_back 9 = .ok (.ireturn, 1) := by decide +kernel
theorem dX10_back_10 : decode cX10_back 10 = .ok (.aload_n 0, 1) := by decide +kernel
theorem dX10_back_11 : decode cX10_back 11 = .ok (.dup, 1) := by decide +kernel
theorem dX10_back_12 : decode cX10_back 12 = .ok (.getfield 172, 3) := by decide +kernel
theorem dX10_back_15 : decode cX10_back 15 = .ok (.iconst 1, 1) := by decide +kernel
theorem dX10_back_16 : decode cX10_back 16 = .ok (.isub, 1) := by decide +kernel
theorem dX10_back_17 : decode cX10_back 17 = .ok (.putfield 172, 3) := by decide +kernel
theorem dX10_back_20 : decode cX10_back 20 = .ok (.aload_n 0, 1) := by decide +kernel
theorem dX10_back_21 : decode cX10_back 21 = .ok (.getfield 172, 3) := by decide +kernel
theorem dX10_back_24 : decode cX10_back 24 = .ok (.ireturn, 1) := by decide +kernel
noncomputable def F10_back (mm : Mem) : Option (Int32 × Mem) :=
  (if (mm 0 11) = (0 : Int32) then some ((-3 : Int32), mm) else (lt (mset mm 0 11 ((mm 0 11) - (1 : Int32))) (fun M2 => (some ((M2 0 11), M2)))))
set_option maxHeartbeats 4000000 in
set_option maxRecDepth 100000 in
theorem kX10_back (l : Launch) (g : GG) (mc mm : Mem) (q : Int32 × Mem) (hF : F10_back mm = some q) : KI l yX10_back cX10_back 1 .int 0 0 g [.ref (g.1 108)] mc mm q.1 (mc, q.2) := by
  intro sz
  refine x_start (Qc := fun z => QI g z q.1 (mc, q.2)) (by decide +kernel) (Nat.le_of_ble_eq_true rfl) ?_ sz
  intro p e s m args below meth c ls Z hr hlk hP hl
  have hx := Z.1.1
  have hb := Z.1.2.1
  have hown := Z.1.2.2.2.1
  have hts := Z.1.2.2.2.2
  have hS : va_S (AA g s.heap.size) s.heap s.heap [] := va_S.rf
  have hl : lv_has ls 1 [(0, .ref (g.1 108))] := hl
  unfold F10_back at hF
  refine lv_aload_n hx hb dX10_back_0 rfl (lv_at hl 0 rfl) ?_
  refine gf10_11 Z hP wd_18_4 dX10_back_1 ?_
  refine lv_if_ne (tgt := 10) hx hb dX10_back_4 rfl (fun hc => ?_) (fun hc => ?_)
  · have hF := (if_neg hc).symm.trans hF
    refine lv_aload_n hx hb dX10_back_10 rfl (lv_at hl 0 rfl) ?_
    refine lv_dup hx hb dX10_back_11 rfl ?_
    refine gf10_11 Z hP wd_18_4 dX10_back_12 ?_
    refine lv_iconst (v := (1 : Int32)) hx hb dX10_back_15 ic_1 ?_
    refine lv_isub hx hb dX10_back_16 ?_
    refine pf10_11 Z hP hS wd_18_4 dX10_back_17 (fun H locs hP hS => ?_)
    refine lv_aload_n hx hb dX10_back_20 rfl (lv_at hl 0 rfl) ?_
    obtain ⟨M2, eM2, hF⟩ := lt_ok hF
    have hP : va_P g.2.2.1 vwCl (wL g mc M2) H := by rw [eM2]; exact hP
    refine gf10_11 Z hP wd_18_4 dX10_back_21 ?_
    exact ret_IWM Z hr hlk hP hS hF dX10_back_24
  · have hF := (if_pos hc).symm.trans hF
    refine lv_bipush (v := (-3 : Int32)) hx hb dX10_back_7 bp_m3 ?_
    exact ret_IWM Z hr hlk hP hS hF dX10_back_9
theorem xX10_back {p : Program} {l : Launch} {e : Env} {R : Room} {s : State} {m : MethodId} {args : Array Value} {below : List Frame} {meth : Method} {c : Code} {H : Heap} {locs : List Loc} {Q : State → Prop} {cc : ByteArray} {nL : Nat} {own : String} {g : GG} {pc index : Nat} {ls : Array Slot} {rest : List Value} {mc mm : Mem} (Z : ZZ p s m args c cc nL own g) (hP : va_P g.2.2.1 vwCl (wL g mc mm) H) (hS : va_S (AA g s.heap.size) s.heap H locs) {q : Int32 × Mem} (hq : F10_back mm = some q) (hlk : Cond.methodLink own index yX10_back ∈ wsL_law) (hsz : ls.size = nL) (hro : (rest.map fun v => v.category).sum ≤ 8) (hR : 0 + 1 ≤ R.frames ∧ 8 + (1 + 11) + 0 ≤ R.locals) (hdg : decode cc pc = .ok (.invokevirtual index, 3)) (kk : ∀ (H : Heap) (locs : List Loc), va_P g.2.2.1 vwCl (wL g mc q.2) H → va_S (AA g s.heap.size) s.heap H locs → W p l e R s m args below meth c H locs 0 0 Q (F0 m (pc + 3) ls (.int q.1 :: rest))) : W p l e R s m args below meth c H locs 0 0 Q (F0 m pc ls (.ref (g.1 108) :: rest)) :=
  x_VI Z hP hS (kX10_back l g mc mm q hq) (mO) (ci := 10) (by decide) rfl rfl mf_X10_back mv_X10_back hlk rfl rfl hsz hro hR hdg kk
theorem dX10_read_0 : decode cX10_read 0 = .ok (.iload_n 1, 1) := by decide +kernel
theorem dX10_read_1 : decode cX10_read 1 = .ok (.invokestatic 92, 3) := by decide +kernel
theorem dX10_read_4 : decode cX10_read 4 = .ok (.ifCond .ne 6, 3) := by decide +kernel
theorem dX10_read_7 : decode cX10_read 7 = .ok (.bipush (-2), 2) := by decide +kernel
theorem dX10_read_9 : decode cX10_read 9 = .ok (.ireturn, 1) := by decide +kernel
theorem dX10_read_10 : decode cX10_read 10 = .ok (.aload_n 0, 1) := by decide +kernel
theorem dX10_read_11 : decode cX10_read 11 = .ok (.getfield 7, 3) := by decide +kernel
theorem dX10_read_14 : decode cX10_read 14 = .ok (.iload_n 1, 1) := by decide +kernel
theorem dX10_read_15 : decode cX10_read 15 = .ok (.iaload, 1) := by decide +kernel
theorem dX10_read_16 : decode cX10_read 16 = .ok (.ifCond .ge 9, 3) := by decide +kernel
theorem dX10_read_19 : decode cX10_read 19 = .ok (.aload_n 0, 1) := by decide +kernel
theorem dX10_read_20 : decode cX10_read 20 = .ok (.iconst 1, 1) := by decide +kernel
theorem dX10_read_21 : decode cX10_read 21 = .ok (.invokevirtual 98, 3) := by decide +kernel
theorem dX10_read_24 : decode cX10_read 24 = .ok (.ireturn, 1) := by decide +kernel
theorem dX10_read_25 : decode cX10_read 25 = .ok (.iconst 0, 1) := by decide +kernel
theorem dX10_read_26 : decode cX10_read 26 = .ok (.istore_n 2, 1) := by decide +kernel
theorem dX10_read_27 : decode cX10_read 27 = .ok (.iconst 1, 1) := by decide +kernel
theorem dX10_read_28 : decode cX10_read 28 = .ok (.istore_n 3, 1) := by decide +kernel
theorem dX10_read_29 : decode cX10_read 29 = .ok (.iload_n 3, 1) := by decide +kernel
theorem dX10_read_30 : decode cX10_read 30 = .ok (.ifCond .eq 80, 3) := by decide +kernel
theorem dX10_read_33 : decode cX10_read 33 = .ok (.iconst 3, 1) := by decide +kernel
theorem dX10_read_34 : decode cX10_read 34 = .ok (.iload_n 2, 1) := by decide +kernel
theorem dX10_read_35 : decode cX10_read 35 = .ok (.imul, 1) := by decide +kernel
theorem dX10_read_36 : decode cX10_read 36 = .ok (.iconst 3, 1) := by decide +kernel
theorem dX10_read_37 : decode cX10_read 37 = .ok (.iadd, 1) := by decide +kernel
theorem dX10_read_38 : decode cX10_read 38 = .ok (.aload_n 0, 1) := by decide +kernel
theorem dX10_read_39 : decode cX10_read 39 = .ok (.getfield 13, 3) := by decide +kernel
theorem dX10_read_42 : decode cX10_read 42 = .ok (.iload_n 1, 1) := by decide +kernel
theorem dX10_read_43 : decode cX10_read 43 = .ok (.iaload, 1) := by decide +kernel
theorem dX10_read_44 : decode cX10_read 44 = .ok (.if_icmp .gt 66, 3) := by decide +kernel
theorem dX10_read_47 : decode cX10_read 47 = .ok (.bipush 60, 2) := by decide +kernel
theorem dX10_read_49 : decode cX10_read 49 = .ok (.iload_n 1, 1) := by decide +kernel
theorem dX10_read_50 : decode cX10_read 50 = .ok (.imul, 1) := by decide +kernel
theorem dX10_read_51 : decode cX10_read 51 = .ok (.iconst 3, 1) := by decide +kernel
theorem dX10_read_52 : decode cX10_read 52 = .ok (.iload_n 2, 1) := by decide +kernel
theorem dX10_read_53 : decode cX10_read 53 = .ok (.imul, 1) := by decide +kernel
theorem dX10_read_54 : decode cX10_read 54 = .ok (.iadd, 1) := by decide +kernel
theorem dX10_read_55 : decode cX10_read 55 = .ok (.istore 4, 2) := by decide +kernel
theorem dX10_read_57 : decode cX10_read 57 = .ok (.aload_n 0, 1) := by decide +kernel
theorem dX10_read_58 : decode cX10_read 58 = .ok (.aload_n 0, 1) := by decide +kernel
theorem dX10_read_59 : decode cX10_read 59 = .ok (.getfield 16, 3) := by decide +kernel
theorem dX10_read_62 : decode cX10_read 62 = .ok (.iload 4, 2) := by decide +kernel
theorem dX10_read_64 : decode cX10_read 64 = .ok (.iaload, 1) := by decide +kernel
theorem dX10_read_65 : decode cX10_read 65 = .ok (.aload_n 0, 1) := by decide +kernel
theorem dX10_read_66 : decode cX10_read 66 = .ok (.getfield 16, 3) := by decide +kernel
theorem dX10_read_69 : decode cX10_read 69 = .ok (.iload 4, 2) := by decide +kernel
theorem dX10_read_71 : decode cX10_read 71 = .ok (.iconst 1, 1) := by decide +kernel
theorem dX10_read_72 : decode cX10_read 72 = .ok (.iadd, 1) := by decide +kernel
theorem dX10_read_73 : decode cX10_read 73 = .ok (.iaload, 1) := by decide +kernel
theorem dX10_read_74 : decode cX10_read 74 = .ok (.aload_n 0, 1) := by decide +kernel
theorem dX10_read_75 : decode cX10_read 75 = .ok (.getfield 16, 3) := by decide +kernel
theorem dX10_read_78 : decode cX10_read 78 = .ok (.iload 4, 2) := by decide +kernel
theorem dX10_read_80 : decode cX10_read 80 = .ok (.iconst 2, 1) := by decide +kernel
theorem dX10_read_81 : decode cX10_read 81 = .ok (.iadd, 1) := by decide +kernel
theorem dX10_read_82 : decode cX10_read 82 = .ok (.iaload, 1) := by decide +kernel
theorem dX10_read_83 : decode cX10_read 83 = .ok (.invokevirtual 185, 3) := by decide +kernel
theorem dX10_read_86 : decode cX10_read 86 = .ok (.ifCond .lt 7, 3) := by decide +kernel
theorem dX10_read_89 : decode cX10_read 89 = .ok (.iconst 1, 1) := by decide +kernel
theorem dX10_read_90 : decode cX10_read 90 = .ok (.goto 4, 3) := by decide +kernel
theorem dX10_read_93 : decode cX10_read 93 = .ok (.iconst 0, 1) := by decide +kernel
theorem dX10_read_94 : decode cX10_read 94 = .ok (.istore_n 3, 1) := by decide +kernel
theorem dX10_read_95 : decode cX10_read 95 = .ok (.iload_n 2, 1) := by decide +kernel
theorem dX10_read_96 : decode cX10_read 96 = .ok (.iload_n 3, 1) := by decide +kernel
theorem dX10_read_97 : decode cX10_read 97 = .ok (.ifCond .eq 7, 3) := by decide +kernel
theorem dX10_read_100 : decode cX10_read 100 = .ok (.iconst 1, 1) := by decide +kernel
theorem dX10_read_101 : decode cX10_read 101 = .ok (.goto 4, 3) := by decide +kernel
theorem dX10_read_104 : decode cX10_read 104 = .ok (.iconst 0, 1) := by decide +kernel
theorem dX10_read_105 : decode cX10_read 105 = .ok (.iadd, 1) := by decide +kernel
theorem dX10_read_106 : decode cX10_read 106 = .ok (.istore_n 2, 1) := by decide +kernel
theorem dX10_read_107 : decode cX10_read 107 = .ok (.goto (-78), 3) := by decide +kernel
theorem dX10_read_110 : decode cX10_read 110 = .ok (.iload_n 2, 1) := by decide +kernel
theorem dX10_read_111 : decode cX10_read 111 = .ok (.ireturn, 1) := by decide +kernel
noncomputable def F10_read_b105 (kh : Int32 → Int32 → Mem → Option (Int32 × Mem)) (v1 : Int32) (a3 : Int32) (s0 : Int32) (s1 : Int32) (M : Mem) : Option (Int32 × Mem) :=
  kh (s0 + s1) a3 M
noncomputable def F10_read_b94 (kh : Int32 → Int32 → Mem → Option (Int32 × Mem)) (v1 : Int32) (a2 : Int32) (s0 : Int32) (M : Mem) : Option (Int32 × Mem) :=
  (if s0 = (0 : Int32) then (F10_read_b105 kh v1) s0 a2 (0 : Int32) M else (F10_read_b105 kh v1) s0 a2 (1 : Int32) M)
noncomputable def F10_read_p29 (kh : Int32 → Int32 → Mem → Option (Int32 × Mem)) (v1 : Int32) (a2 : Int32) (a3 : Int32) (M : Mem) : Option (Int32 × Mem) :=
  (if a3 = (0 : Int32) then some (a2, M) else (ck v1 4 (if (M 2 v1.toNatClampNeg) < (((3 : Int32) * a2) + (3 : Int32)) then some (a2, M) else (ck (((60 : Int32) * v1) + ((3 : Int32) * a2)) 240 (ck ((((60 : Int32) * v1) + ((3 : Int32) * a2)) + (1 : Int32)) 240 (ck ((((60 : Int32) * v1) + ((3 : Int32) * a2)) + (2 : Int32)) 240 ((F10_event (M 3 (((60 : Int32) * v1) + ((3 : Int32) * a2)).toNatClampNeg) (M 3 ((((60 : Int32) * v1) + ((3 : Int32) * a2)) + (1 : Int32)).toNatClampNeg) (M 3 ((((60 : Int32) * v1) + ((3 : Int32) * a2)) + (2 : Int32)).toNatClampNeg) M).bind (fun q13 => (if q13.1 < (0 : Int32) then (F10_read_b94 kh v1) a2 (0 : Int32) q13.2 else (F10_read_b94 kh v1) a2 (1 : Int32) q13.2)))))))))
noncomputable def F10_read_h29 (v1 : Int32) : Nat → Int32 → Int32 → Mem → Option (Int32 × Mem)
  | 0, _, _, _ => none
  | n + 1, a2, a3, M => F10_read_p29 (F10_read_h29 v1 n) v1 a2 a3 M
noncomputable def F10_read (v1 : Int32) (mm : Mem) : Option (Int32 × Mem) :=
  ((F10_isSheet v1).bind (fun q14 => (if q14 = (0 : Int32) then some ((-2 : Int32), mm) else (ck v1 4 (if (0 : Int32) ≤ (mm 1 v1.toNatClampNeg) then (F10_read_h29 v1 FU) (0 : Int32) (1 : Int32) mm else ((F10_finds (1 : Int32) mm).bind (fun q16 => (some (q16.1, q16.2)))))))))
set_option maxHeartbeats 4000000 in
set_option maxRecDepth 100000 in
theorem kX10_read (l : Launch) (g : GG) (v1 : Int32) (mc mm : Mem) (q : Int32 × Mem) (hF : F10_read v1 mm = some q) : KI l yX10_read cX10_read 5 .int 3 68 g [.ref (g.1 108), .int v1] mc mm q.1 (mc, q.2) := by
  intro sz
  refine x_start (Qc := fun z => QI g z q.1 (mc, q.2)) (by decide +kernel) (Nat.le_of_ble_eq_true rfl) ?_ sz
  intro p e s m args below meth c ls Z hr hlk hP hl
  have hx := Z.1.1
  have hb := Z.1.2.1
  have hown := Z.1.2.2.2.1
  have hts := Z.1.2.2.2.2
  have hS : va_S (AA g s.heap.size) s.heap s.heap [] := va_S.rf
  have hl : lv_has ls 5 [(0, .ref (g.1 108)), (1, .int v1)] := hl
  unfold F10_read at hF
  have hL29 : ∀ n : Nat, ∀ (a2 : Int32) (a3 : Int32) (M : Mem), F10_read_h29 v1 n a2 a3 M = some q → ∀ (H : Heap) (locs : List Loc) (ls : Array Slot), lv_has ls 5 [(0, .ref (g.1 108)), (1, .int v1), (2, .int a2), (3, .int a3)] → va_P g.2.2.1 vwCl (wL g mc M) H → va_S (AA g s.heap.size) s.heap H locs → W p l e { frames := 3, cells := 0, slots := 0, locals := 68 } s m args below meth c H locs 0 0 (MQ below (QI g s.heap.size q.1 (mc, q.2)) args s 0 0 (AA g s.heap.size)) (F0 m 29 ls []) := by
    intro n
    induction n with
    | zero => intro a2 a3 M hF H locs ls hl hP hS; exact absurd hF (fun z => nomatch (show (none : Option _) = some q from z))
    | succ n ih =>
      generalize hkh : F10_read_h29 v1 n = kh at ih
      have hb105 : ∀ (a3 : Int32) (s0 : Int32) (s1 : Int32) (M : Mem), F10_read_b105 kh v1 a3 s0 s1 M = some q → ∀ (H : Heap) (locs : List Loc) (ls : Array Slot), lv_has ls 5 [(0, .ref (g.1 108)), (1, .int v1), (3, .int a3)] → va_P g.2.2.1 vwCl (wL g mc M) H → va_S (AA g s.heap.size) s.heap H locs → W p l e { frames := 3, cells := 0, slots := 0, locals := 68 } s m args below meth c H locs 0 0 (MQ below (QI g s.heap.size q.1 (mc, q.2)) args s 0 0 (AA g s.heap.size)) (F0 m 105 ls [.int s1, .int s0]) := by
        intro a3 s0 s1 M hF H locs ls hl hP hS
        unfold F10_read_b105 at hF
        refine lv_iadd hx hb dX10_read_105 ?_
        refine lv_istore_n (lv' := [(2, .int (s0 + s1)), (0, .ref (g.1 108)), (1, .int v1), (3, .int a3)]) hx hb dX10_read_106 rfl hl (Nat.le_of_ble_eq_true rfl) rfl (fun ls hl => ?_)
        refine lv_goto (tgt := 29) hx hb dX10_read_107 rfl ?_
        exact ih _ _ _ hF _ _ _ (lv_sub hl [1, 2, 0, 3] rfl) hP hS
      have hb94 : ∀ (a2 : Int32) (s0 : Int32) (M : Mem), F10_read_b94 kh v1 a2 s0 M = some q → ∀ (H : Heap) (locs : List Loc) (ls : Array Slot), lv_has ls 5 [(0, .ref (g.1 108)), (1, .int v1), (2, .int a2)] → va_P g.2.2.1 vwCl (wL g mc M) H → va_S (AA g s.heap.size) s.heap H locs → W p l e { frames := 3, cells := 0, slots := 0, locals := 68 } s m args below meth c H locs 0 0 (MQ below (QI g s.heap.size q.1 (mc, q.2)) args s 0 0 (AA g s.heap.size)) (F0 m 94 ls [.int s0]) := by
        intro a2 s0 M hF H locs ls hl hP hS
        unfold F10_read_b94 at hF
        refine lv_istore_n (lv' := [(3, .int s0), (0, .ref (g.1 108)), (1, .int v1), (2, .int a2)]) hx hb dX10_read_94 rfl hl (Nat.le_of_ble_eq_true rfl) rfl (fun ls hl => ?_)
        refine lv_iload_n hx hb dX10_read_95 rfl (lv_at hl 3 rfl) ?_
        refine lv_iload_n hx hb dX10_read_96 rfl (lv_at hl 0 rfl) ?_
        refine lv_if_eq (tgt := 104) hx hb dX10_read_97 rfl (fun hc => ?_) (fun hc => ?_)
        · have hF := (if_pos hc).symm.trans hF
          refine lv_iconst (v := (0 : Int32)) hx hb dX10_read_104 ic_0 ?_
          exact hb105 _ _ _ _ hF _ _ _ (lv_sub hl [1, 2, 0] rfl) hP hS
        · have hF := (if_neg hc).symm.trans hF
          refine lv_iconst (v := (1 : Int32)) hx hb dX10_read_100 ic_1 ?_
          refine lv_goto (tgt := 105) hx hb dX10_read_101 rfl ?_
          exact hb105 _ _ _ _ hF _ _ _ (lv_sub hl [1, 2, 0] rfl) hP hS
      intro a2 a3 M hF H locs ls hl hP hS
      have hF : F10_read_p29 (F10_read_h29 v1 n) v1 a2 a3 M = some q := hF
      rw [hkh] at hF
      unfold F10_read_p29 at hF
      refine lv_iload_n hx hb dX10_read_29 rfl (lv_at hl 3 rfl) ?_
      refine lv_if_eq (tgt := 110) hx hb dX10_read_30 rfl (fun hc => ?_) (fun hc => ?_)
      · have hF := (if_pos hc).symm.trans hF
        refine lv_iload_n hx hb dX10_read_110 rfl (lv_at hl 2 rfl) ?_
        exact ret_IWM Z hr hlk hP hS hF dX10_read_111
      · have hF := (if_neg hc).symm.trans hF
        refine lv_iconst (v := (3 : Int32)) hx hb dX10_read_33 ic_3 ?_
        refine lv_iload_n hx hb dX10_read_34 rfl (lv_at hl 2 rfl) ?_
        refine lv_imul hx hb dX10_read_35 ?_
        refine lv_iconst (v := (3 : Int32)) hx hb dX10_read_36 ic_3 ?_
        refine lv_iadd hx hb dX10_read_37 ?_
        refine lv_aload_n hx hb dX10_read_38 rfl (lv_at hl 0 rfl) ?_
        refine gf10_1 Z hP wd_6_5 dX10_read_39 ?_
        refine lv_iload_n hx hb dX10_read_42 rfl (lv_at hl 1 rfl) ?_
        obtain ⟨hi9, hF⟩ := ck_ok hF
        refine rM_ld Z hP 4 2 (by decide +kernel) hi9 dX10_read_43 ?_
        refine lv_icmp_gt (tgt := 110) hx hb dX10_read_44 rfl (fun hc => ?_) (fun hc => ?_)
        · have hF := (if_pos hc).symm.trans hF
          refine lv_iload_n hx hb dX10_read_110 rfl (lv_at hl 2 rfl) ?_
          exact ret_IWM Z hr hlk hP hS hF dX10_read_111
        · have hF := (if_neg hc).symm.trans hF
          refine lv_bipush (v := (60 : Int32)) hx hb dX10_read_47 bp_60 ?_
          refine lv_iload_n hx hb dX10_read_49 rfl (lv_at hl 1 rfl) ?_
          refine lv_imul hx hb dX10_read_50 ?_
          refine lv_iconst (v := (3 : Int32)) hx hb dX10_read_51 ic_3 ?_
          refine lv_iload_n hx hb dX10_read_52 rfl (lv_at hl 2 rfl) ?_
          refine lv_imul hx hb dX10_read_53 ?_
          refine lv_iadd hx hb dX10_read_54 ?_
          refine lv_istore (lv' := [(4, .int (((60 : Int32) * v1) + ((3 : Int32) * a2))), (0, .ref (g.1 108)), (1, .int v1), (2, .int a2), (3, .int a3)]) hx hb dX10_read_55 hl (Nat.le_of_ble_eq_true rfl) rfl (fun ls hl => ?_)
          refine lv_aload_n hx hb dX10_read_57 rfl (lv_at hl 1 rfl) ?_
          refine lv_aload_n hx hb dX10_read_58 rfl (lv_at hl 1 rfl) ?_
          refine gf10_2 Z hP wd_6_6 dX10_read_59 ?_
          refine lv_iload hx hb dX10_read_62 (lv_at hl 0 rfl) ?_
          obtain ⟨hi10, hF⟩ := ck_ok hF
          refine rM_ld Z hP 240 3 (by decide +kernel) hi10 dX10_read_64 ?_
          refine lv_aload_n hx hb dX10_read_65 rfl (lv_at hl 1 rfl) ?_
          refine gf10_2 Z hP wd_6_6 dX10_read_66 ?_
          refine lv_iload hx hb dX10_read_69 (lv_at hl 0 rfl) ?_
          refine lv_iconst (v := (1 : Int32)) hx hb dX10_read_71 ic_1 ?_
          refine lv_iadd hx hb dX10_read_72 ?_
          obtain ⟨hi11, hF⟩ := ck_ok hF
          refine rM_ld Z hP 240 3 (by decide +kernel) hi11 dX10_read_73 ?_
          refine lv_aload_n hx hb dX10_read_74 rfl (lv_at hl 1 rfl) ?_
          refine gf10_2 Z hP wd_6_6 dX10_read_75 ?_
          refine lv_iload hx hb dX10_read_78 (lv_at hl 0 rfl) ?_
          refine lv_iconst (v := (2 : Int32)) hx hb dX10_read_80 ic_2 ?_
          refine lv_iadd hx hb dX10_read_81 ?_
          obtain ⟨hi12, hF⟩ := ck_ok hF
          refine rM_ld Z hP 240 3 (by decide +kernel) hi12 dX10_read_82 ?_
          obtain ⟨q13, hq13, hF⟩ := bd_ok hF
          refine xX10_event Z hP hS hq13 wd_20_5 hl.1 (Nat.le_of_ble_eq_true rfl) ⟨Nat.le_of_ble_eq_true rfl, Nat.le_of_ble_eq_true rfl⟩ dX10_read_83 (fun H locs hP hS => ?_)
          refine lv_if_lt (tgt := 93) hx hb dX10_read_86 rfl (fun hc => ?_) (fun hc => ?_)
          · have hF := (if_pos hc).symm.trans hF
            refine lv_iconst (v := (0 : Int32)) hx hb dX10_read_93 ic_0 ?_
            exact hb94 _ _ _ hF _ _ _ (lv_sub hl [1, 2, 3] rfl) hP hS
          · have hF := (if_neg hc).symm.trans hF
            refine lv_iconst (v := (1 : Int32)) hx hb dX10_read_89 ic_1 ?_
            refine lv_goto (tgt := 94) hx hb dX10_read_90 rfl ?_
            exact hb94 _ _ _ hF _ _ _ (lv_sub hl [1, 2, 3] rfl) hP hS
  refine lv_iload_n hx hb dX10_read_0 rfl (lv_at hl 1 rfl) ?_
  obtain ⟨q14, hq14, hF⟩ := bd_ok hF
  refine xX10_isSheet Z hP hS hq14 wd_19_21 hl.1 (Nat.le_of_ble_eq_true rfl) ⟨Nat.le_of_ble_eq_true rfl, Nat.le_of_ble_eq_true rfl⟩ dX10_read_1 (fun H locs hP hS => ?_)
  refine lv_if_ne (tgt := 10) hx hb dX10_read_4 rfl (fun hc => ?_) (fun hc => ?_)
  · have hF := (if_neg hc).symm.trans hF
    refine lv_aload_n hx hb dX10_read_10 rfl (lv_at hl 0 rfl) ?_
    refine gf10_0 Z hP wd_6_4 dX10_read_11 ?_
    refine lv_iload_n hx hb dX10_read_14 rfl (lv_at hl 1 rfl) ?_
    obtain ⟨hi15, hF⟩ := ck_ok hF
    refine rM_ld Z hP 4 1 (by decide +kernel) hi15 dX10_read_15 ?_
    refine lv_if_ge (tgt := 25) hx hb dX10_read_16 rfl (fun hc => ?_) (fun hc => ?_)
    · have hF := (if_pos hc).symm.trans hF
      refine lv_iconst (v := (0 : Int32)) hx hb dX10_read_25 ic_0 ?_
      refine lv_istore_n (lv' := [(2, .int (0 : Int32)), (0, .ref (g.1 108)), (1, .int v1)]) hx hb dX10_read_26 rfl hl (Nat.le_of_ble_eq_true rfl) rfl (fun ls hl => ?_)
      refine lv_iconst (v := (1 : Int32)) hx hb dX10_read_27 ic_1 ?_
      refine lv_istore_n (lv' := [(3, .int (1 : Int32)), (2, .int (0 : Int32)), (0, .ref (g.1 108)), (1, .int v1)]) hx hb dX10_read_28 rfl hl (Nat.le_of_ble_eq_true rfl) rfl (fun ls hl => ?_)
      exact (hL29 FU) _ _ _ hF _ _ _ (lv_sub hl [2, 3, 1, 0] rfl) hP hS
    · have hF := (if_neg hc).symm.trans hF
      refine lv_aload_n hx hb dX10_read_19 rfl (lv_at hl 0 rfl) ?_
      refine lv_iconst (v := (1 : Int32)) hx hb dX10_read_20 ic_1 ?_
      obtain ⟨q16, hq16, hF⟩ := bd_ok hF
      refine xX10_finds Z hP hS hq16 wd_20_0 hl.1 (Nat.le_of_ble_eq_true rfl) ⟨Nat.le_of_ble_eq_true rfl, Nat.le_of_ble_eq_true rfl⟩ dX10_read_21 (fun H locs hP hS => ?_)
      exact ret_IWM Z hr hlk hP hS hF dX10_read_24
  · have hF := (if_pos hc).symm.trans hF
    refine lv_bipush (v := (-2 : Int32)) hx hb dX10_read_7 bp_m2 ?_
    exact ret_IWM Z hr hlk hP hS hF dX10_read_9
theorem xX10_read {p : Program} {l : Launch} {e : Env} {R : Room} {s : State} {m : MethodId} {args : Array Value} {below : List Frame} {meth : Method} {c : Code} {H : Heap} {locs : List Loc} {Q : State → Prop} {cc : ByteArray} {nL : Nat} {own : String} {g : GG} {pc index : Nat} {ls : Array Slot} {rest : List Value} {mc mm : Mem} (Z : ZZ p s m args c cc nL own g) (hP : va_P g.2.2.1 vwCl (wL g mc mm) H) (hS : va_S (AA g s.heap.size) s.heap H locs) {v1 : Int32} {q : Int32 × Mem} (hq : F10_read v1 mm = some q) (hlk : Cond.methodLink own index yX10_read ∈ wsL_law) (hsz : ls.size = nL) (hro : (rest.map fun v => v.category).sum ≤ 8) (hR : 3 + 1 ≤ R.frames ∧ 8 + (5 + 11) + 68 ≤ R.locals) (hdg : decode cc pc = .ok (.invokevirtual index, 3)) (kk : ∀ (H : Heap) (locs : List Loc), va_P g.2.2.1 vwCl (wL g mc q.2) H → va_S (AA g s.heap.size) s.heap H locs → W p l e R s m args below meth c H locs 0 0 Q (F0 m (pc + 3) ls (.int q.1 :: rest))) : W p l e R s m args below meth c H locs 0 0 Q (F0 m pc ls (.int v1 :: .ref (g.1 108) :: rest)) :=
  x_VI Z hP hS (kX10_read l g v1 mc mm q hq) (mO) (ci := 10) (by decide) rfl rfl mf_X10_read mv_X10_read hlk rfl rfl hsz hro hR hdg kk
theorem dX10_isCovered_0 : decode cX10_isCovered 0 = .ok (.iconst 0, 1) := by decide +kernel
theorem dX10_isCovered_1 : decode cX10_isCovered 1 = .ok (.istore_n 3, 1) := by decide +kernel
theorem dX10_isCovered_2 : decode cX10_isCovered 2 = .ok (.iconst 0, 1) := by decide +kernel
theorem dX10_isCovered_3 : decode cX10_isCovered 3 = .ok (.istore 4, 2) := by decide +kernel
theorem dX10_isCovered_5 : decode cX10_isCovered 5 = .ok (.iload 4, 2) := by decide +kernel
theorem dX10_isCovered_7 : decode cX10_isCovered 7 = .ok (.aload_n 0, 1) := by decide +kernel
theorem dX10_isCovered_8 : decode cX10_isCovered 8 = .ok (.getfield 172, 3) := by decide +kernel
theorem dX10_isCovered_11 : decode cX10_isCovered 11 = .ok (.if_icmp .ge 83, 3) := by decide +kernel
theorem dX10_isCovered_14 : decode cX10_isCovered 14 = .ok (.iload_n 3, 1) := by decide +kernel
theorem dX10_isCovered_15 : decode cX10_isCovered 15 = .ok (.ifCond .ne 67, 3) := by decide +kernel
theorem dX10_isCovered_18 : decode cX10_isCovered 18 = .ok (.aload_n 0, 1) := by decide +kernel
theorem dX10_isCovered_19 : decode cX10_isCovered 19 = .ok (.getfield 187, 3) := by decide +kernel
theorem dX10_isCovered_22 : decode cX10_isCovered 22 = .ok (.iload 4, 2) := by decide +kernel
theorem dX10_isCovered_24 : decode cX10_isCovered 24 = .ok (.invokestatic 190, 3) := by decide +kernel
theorem dX10_isCovered_27 : decode cX10_isCovered 27 = .ok (.ifCond .ne 59, 3) := by decide +kernel
theorem dX10_isCovered_30 : decode cX10_isCovered 30 = .ok (.aload_n 0, 1) := by decide +kernel
theorem dX10_isCovered_31 : decode cX10_isCovered 31 = .ok (.getfield 34, 3) := by decide +kernel
theorem dX10_isCovered_34 : decode cX10_isCovered 34 = .ok (.iconst 3, 1) := by decide +kernel
theorem dX10_isCovered_35 : decode cX10_isCovered 35 = .ok (.iload 4, 2) := by decide +kernel
theorem dX10_isCovered_37 : decode cX10_isCovered 37 = .ok (.imul, 1) := by decide +kernel
theorem dX10_isCovered_38 : decode cX10_isCovered 38 = .ok (.iaload, 1) := by decide +kernel
theorem dX10_isCovered_39 : decode cX10_isCovered 39 = .ok (.iconst 1, 1) := by decide +kernel
theorem dX10_isCovered_40 : decode cX10_isCovered 40 = .ok (.if_icmp .ne 46, 3) := by decide +kernel
theorem dX10_isCovered_43 : decode cX10_isCovered 43 = .ok (.aload_n 0, 1) := by decide +kernel
theorem dX10_isCovered_44 : decode cX10_isCovered 44 = .ok (.getfield 34, 3) := by decide +kernel
theorem dX10_isCovered_47 : decode cX10_isCovered 47 = .ok (.iconst 3, 1) := by decide +kernel
theorem dX10_isCovered_48 : decode cX10_isCovered 48 = .ok (.iload 4, 2) := by decide +kernel
theorem dX10_isCovered_50 : decode cX10_isCovered 50 = .ok (.imul, 1) := by decide +kernel
theorem dX10_isCovered_51 : decode cX10_isCovered 51 = .ok (.iconst 2, 1) := by decide +kernel
theorem dX10_isCovered_52 : decode cX10_isCovered 52 = .ok (.iadd, 1) := by decide +kernel
theorem dX10_isCovered_53 : decode cX10_isCovered 53 = .ok (.iaload, 1) := by decide +kernel
theorem dX10_isCovered_54 : decode cX10_isCovered 54 = .ok (.iload_n 2, 1) := by decide +kernel
theorem dX10_isCovered_55 : decode cX10_isCovered 55 = .ok (.if_icmp .ne 31, 3) := by decide +kernel
theorem dX10_isCovered_58 : decode cX10_isCovered 58 = .ok (.iload_n 1, 1) := by decide +kernel
theorem dX10_isCovered_59 : decode cX10_isCovered 59 = .ok (.aload_n 0, 1) := by decide +kernel
theorem dX10_isCovered_60 : decode cX10_isCovered 60 = .ok (.getfield 34, 3) := by decide +kernel
theorem dX10_isCovered_63 : decode cX10_isCovered 63 = .ok (.iconst 3, 1) := by decide +kernel
theorem dX10_isCovered_64 : decode cX10_isCovered 64 = .ok (.iload 4, 2) := by decide +kernel
theorem dX10_isCovered_66 : decode cX10_isCovered 66 = .ok (.imul, 1) := by decide +kernel
theorem dX10_isCovered_67 : decode cX10_isCovered 67 = .ok (.iconst 1, 1) := by decide +kernel
theorem dX10_isCovered_68 : decode cX10_isCovered 68 = .ok (.iadd, 1) := by decide +kernel
theorem dX10_isCovered_69 : decode cX10_isCovered 69 = .ok (.iaload, 1) := by decide +kernel
theorem dX10_isCovered_70 : decode cX10_isCovered 70 = .ok (.isub, 1) := by decide +kernel
theorem dX10_isCovered_71 : decode cX10_isCovered 71 = .ok (.i2l, 1) := by decide +kernel
theorem dX10_isCovered_72 : decode cX10_isCovered 72 = .ok (.lconst 0, 1) := by decide +kernel
theorem dX10_isCovered_73 : decode cX10_isCovered 73 = .ok (.ldc2_w 96, 3) := by decide +kernel
theorem dX10_isCovered_76 : decode cX10_isCovered 76 = .ok (.invokestatic 83, 3) := by decide +kernel
theorem dX10_isCovered_79 : decode cX10_isCovered 79 = .ok (.ifCond .eq 7, 3) := by decide +kernel
theorem dX10_isCovered_82 : decode cX10_isCovered 82 = .ok (.iconst 1, 1) := by decide +kernel
theorem dX10_isCovered_83 : decode cX10_isCovered 83 = .ok (.goto 4, 3) := by decide +kernel
theorem dX10_isCovered_86 : decode cX10_isCovered 86 = .ok (.iconst 0, 1) := by decide +kernel
theorem dX10_isCovered_87 : decode cX10_isCovered 87 = .ok (.istore_n 3, 1) := by decide +kernel
theorem dX10_isCovered_88 : decode cX10_isCovered 88 = .ok (.iinc 4 1, 3) := by decide +kernel
theorem dX10_isCovered_91 : decode cX10_isCovered 91 = .ok (.goto (-86), 3) := by decide +kernel
theorem dX10_isCovered_94 : decode cX10_isCovered 94 = .ok (.iload_n 3, 1) := by decide +kernel
theorem dX10_isCovered_95 : decode cX10_isCovered 95 = .ok (.ireturn, 1) := by decide +kernel
noncomputable def F10_isCovered_b87 (kh : Int32 → Int32 → Option (Int32)) (v1 : Int32) (v2 : Int32) (mm : Mem) (a4 : Int32) (s0 : Int32) : Option (Int32) :=
  kh s0 (a4 + (1 : Int32))
noncomputable def F10_isCovered_b82 (kh : Int32 → Int32 → Option (Int32)) (v1 : Int32) (v2 : Int32) (mm : Mem) (a4 : Int32) : Option (Int32) :=
  (F10_isCovered_b87 kh v1 v2 mm) a4 (1 : Int32)
noncomputable def F10_isCovered_b86 (kh : Int32 → Int32 → Option (Int32)) (v1 : Int32) (v2 : Int32) (mm : Mem) (a4 : Int32) : Option (Int32) :=
  (F10_isCovered_b87 kh v1 v2 mm) a4 (0 : Int32)
noncomputable def F10_isCovered_p5 (kh : Int32 → Int32 → Option (Int32)) (v1 : Int32) (v2 : Int32) (mm : Mem) (a3 : Int32) (a4 : Int32) : Option (Int32) :=
  (if (mm 0 11) ≤ a4 then (bz a3 (some a3)) else (if a3 = (0 : Int32) then ((F10_isIn (mm 0 13) a4).bind (fun q6 => (if q6 = (0 : Int32) then (ck ((3 : Int32) * a4) 24 (if (mm 9 ((3 : Int32) * a4).toNatClampNeg) = (1 : Int32) then (ck (((3 : Int32) * a4) + (2 : Int32)) 24 (if (mm 9 (((3 : Int32) * a4) + (2 : Int32)).toNatClampNeg) = v2 then (ck (((3 : Int32) * a4) + (1 : Int32)) 24 ((F10_in ((v1 - (mm 9 (((3 : Int32) * a4) + (1 : Int32)).toNatClampNeg)).toInt64) (0 : Int64) (2 : Int64)).bind (fun q10 => (if q10 = (0 : Int32) then (F10_isCovered_b86 kh v1 v2 mm) a4 else (F10_isCovered_b82 kh v1 v2 mm) a4)))) else (F10_isCovered_b86 kh v1 v2 mm) a4)) else (F10_isCovered_b86 kh v1 v2 mm) a4)) else (F10_isCovered_b86 kh v1 v2 mm) a4))) else (F10_isCovered_b82 kh v1 v2 mm) a4))
noncomputable def F10_isCovered_h5 (v1 : Int32) (v2 : Int32) (mm : Mem) : Nat → Int32 → Int32 → Option (Int32)
  | 0, _, _ => none
  | n + 1, a3, a4 => F10_isCovered_p5 (F10_isCovered_h5 v1 v2 mm n) v1 v2 mm a3 a4
noncomputable def F10_isCovered (v1 : Int32) (v2 : Int32) (mm : Mem) : Option (Int32) :=
  (F10_isCovered_h5 v1 v2 mm FU) (0 : Int32) (0 : Int32)
set_option maxHeartbeats 4000000 in
set_option maxRecDepth 100000 in
theorem kX10_isCovered (l : Launch) (g : GG) (v1 : Int32) (v2 : Int32) (mc mm : Mem) (q : Int32) (hF : F10_isCovered v1 v2 mm = some q) : KI l yX10_isCovered cX10_isCovered 5 .boolean 1 25 g [.ref (g.1 108), .int v1, .int v2] mc mm q (mc, mm) := by
  intro sz
  refine x_start (Qc := fun z => QI g z q (mc, mm)) (by decide +kernel) (Nat.le_of_ble_eq_true rfl) ?_ sz
  intro p e s m args below meth c ls Z hr hlk hP hl
  have hx := Z.1.1
  have hb := Z.1.2.1
  have hown := Z.1.2.2.2.1
  have hts := Z.1.2.2.2.2
  have hS : va_S (AA g s.heap.size) s.heap s.heap [] := va_S.rf
  have hl : lv_has ls 5 [(0, .ref (g.1 108)), (1, .int v1), (2, .int v2)] := hl
  unfold F10_isCovered at hF
  have hL5 : ∀ n : Nat, ∀ (a3 : Int32) (a4 : Int32), F10_isCovered_h5 v1 v2 mm n a3 a4 = some q → ∀ (H : Heap) (locs : List Loc) (ls : Array Slot), lv_has ls 5 [(0, .ref (g.1 108)), (1, .int v1), (2, .int v2), (3, .int a3), (4, .int a4)] → va_P g.2.2.1 vwCl (wL g mc mm) H → va_S (AA g s.heap.size) s.heap H locs → W p l e { frames := 1, cells := 0, slots := 0, locals := 25 } s m args below meth c H locs 0 0 (MQ below (QI g s.heap.size q (mc, mm)) args s 0 0 (AA g s.heap.size)) (F0 m 5 ls []) := by
    intro n
    induction n with
    | zero => intro a3 a4 hF H locs ls hl hP hS; exact absurd hF (fun z => nomatch (show (none : Option _) = some q from z))
    | succ n ih =>
      generalize hkh : F10_isCovered_h5 v1 v2 mm n = kh at ih
      have hb87 : ∀ (a4 : Int32) (s0 : Int32), F10_isCovered_b87 kh v1 v2 mm a4 s0 = some q → ∀ (H : Heap) (locs : List Loc) (ls : Array Slot), lv_has ls 5 [(0, .ref (g.1 108)), (1, .int v1), (2, .int v2), (4, .int a4)] → va_P g.2.2.1 vwCl (wL g mc mm) H → va_S (AA g s.heap.size) s.heap H locs → W p l e { frames := 1, cells := 0, slots := 0, locals := 25 } s m args below meth c H locs 0 0 (MQ below (QI g s.heap.size q (mc, mm)) args s 0 0 (AA g s.heap.size)) (F0 m 87 ls [.int s0]) := by
        intro a4 s0 hF H locs ls hl hP hS
        unfold F10_isCovered_b87 at hF
        refine lv_istore_n (lv' := [(3, .int s0), (0, .ref (g.1 108)), (1, .int v1), (2, .int v2), (4, .int a4)]) hx hb dX10_isCovered_87 rfl hl (Nat.le_of_ble_eq_true rfl) rfl (fun ls hl => ?_)
        refine lv_iinc (lv' := [(4, .int (a4 + (1 : Int32))), (3, .int s0), (0, .ref (g.1 108)), (1, .int v1), (2, .int v2)]) (v := (a4 + (1 : Int32))) hx hb dX10_isCovered_88 hl (k := 4) rfl (io_1 _) (Nat.le_of_ble_eq_true rfl) rfl (fun ls hl => ?_)
        refine lv_goto (tgt := 5) hx hb dX10_isCovered_91 rfl ?_
        exact ih _ _ hF _ _ _ (lv_sub hl [2, 3, 4, 1, 0] rfl) hP hS
      have hb82 : ∀ (a4 : Int32), F10_isCovered_b82 kh v1 v2 mm a4 = some q → ∀ (H : Heap) (locs : List Loc) (ls : Array Slot), lv_has ls 5 [(0, .ref (g.1 108)), (1, .int v1), (2, .int v2), (4, .int a4)] → va_P g.2.2.1 vwCl (wL g mc mm) H → va_S (AA g s.heap.size) s.heap H locs → W p l e { frames := 1, cells := 0, slots := 0, locals := 25 } s m args below meth c H locs 0 0 (MQ below (QI g s.heap.size q (mc, mm)) args s 0 0 (AA g s.heap.size)) (F0 m 82 ls []) := by
        intro a4 hF H locs ls hl hP hS
        unfold F10_isCovered_b82 at hF
        refine lv_iconst (v := (1 : Int32)) hx hb dX10_isCovered_82 ic_1 ?_
        refine lv_goto (tgt := 87) hx hb dX10_isCovered_83 rfl ?_
        exact hb87 _ _ hF _ _ _ (lv_sub hl [0, 1, 2, 3] rfl) hP hS
      have hb86 : ∀ (a4 : Int32), F10_isCovered_b86 kh v1 v2 mm a4 = some q → ∀ (H : Heap) (locs : List Loc) (ls : Array Slot), lv_has ls 5 [(0, .ref (g.1 108)), (1, .int v1), (2, .int v2), (4, .int a4)] → va_P g.2.2.1 vwCl (wL g mc mm) H → va_S (AA g s.heap.size) s.heap H locs → W p l e { frames := 1, cells := 0, slots := 0, locals := 25 } s m args below meth c H locs 0 0 (MQ below (QI g s.heap.size q (mc, mm)) args s 0 0 (AA g s.heap.size)) (F0 m 86 ls []) := by
        intro a4 hF H locs ls hl hP hS
        unfold F10_isCovered_b86 at hF
        refine lv_iconst (v := (0 : Int32)) hx hb dX10_isCovered_86 ic_0 ?_
        exact hb87 _ _ hF _ _ _ (lv_sub hl [0, 1, 2, 3] rfl) hP hS
      intro a3 a4 hF H locs ls hl hP hS
      have hF : F10_isCovered_p5 (F10_isCovered_h5 v1 v2 mm n) v1 v2 mm a3 a4 = some q := hF
      rw [hkh] at hF
      unfold F10_isCovered_p5 at hF
      refine lv_iload hx hb dX10_isCovered_5 (lv_at hl 4 rfl) ?_
      refine lv_aload_n hx hb dX10_isCovered_7 rfl (lv_at hl 0 rfl) ?_
      refine gf10_11 Z hP wd_18_4 dX10_isCovered_8 ?_
      refine lv_icmp_ge (tgt := 94) hx hb dX10_isCovered_11 rfl (fun hc => ?_) (fun hc => ?_)
      · have hF := (if_pos hc).symm.trans hF
        refine lv_iload_n hx hb dX10_isCovered_94 rfl (lv_at hl 3 rfl) ?_
        obtain ⟨hbz, hF⟩ := bz_ok hF
        exact ret_Z Z hr hlk hP hS hbz hF dX10_isCovered_95
      · have hF := (if_neg hc).symm.trans hF
        refine lv_iload_n hx hb dX10_isCovered_14 rfl (lv_at hl 3 rfl) ?_
        refine lv_if_ne (tgt := 82) hx hb dX10_isCovered_15 rfl (fun hc => ?_) (fun hc => ?_)
        · have hF := (if_neg hc).symm.trans hF
          exact hb82 _ hF _ _ _ (lv_sub hl [0, 1, 2, 4] rfl) hP hS
        · have hF := (if_pos hc).symm.trans hF
          refine lv_aload_n hx hb dX10_isCovered_18 rfl (lv_at hl 0 rfl) ?_
          refine gf10_13 Z hP wd_23_1 dX10_isCovered_19 ?_
          refine lv_iload hx hb dX10_isCovered_22 (lv_at hl 4 rfl) ?_
          obtain ⟨q6, hq6, hF⟩ := bd_ok hF
          refine xX10_isIn Z hP hS hq6 wd_23_2 hl.1 (Nat.le_of_ble_eq_true rfl) ⟨Nat.le_of_ble_eq_true rfl, Nat.le_of_ble_eq_true rfl⟩ dX10_isCovered_24 (fun H locs hP hS => ?_)
          refine lv_if_ne (tgt := 86) hx hb dX10_isCovered_27 rfl (fun hc => ?_) (fun hc => ?_)
          · have hF := (if_neg hc).symm.trans hF
            exact hb86 _ hF _ _ _ (lv_sub hl [0, 1, 2, 4] rfl) hP hS
          · have hF := (if_pos hc).symm.trans hF
            refine lv_aload_n hx hb dX10_isCovered_30 rfl (lv_at hl 0 rfl) ?_
            refine gf10_12 Z hP wd_6_12 dX10_isCovered_31 ?_
            refine lv_iconst (v := (3 : Int32)) hx hb dX10_isCovered_34 ic_3 ?_
            refine lv_iload hx hb dX10_isCovered_35 (lv_at hl 4 rfl) ?_
            refine lv_imul hx hb dX10_isCovered_37 ?_
            obtain ⟨hi7, hF⟩ := ck_ok hF
            refine rM_ld Z hP 24 9 (by decide +kernel) hi7 dX10_isCovered_38 ?_
            refine lv_iconst (v := (1 : Int32)) hx hb dX10_isCovered_39 ic_1 ?_
            refine lv_icmp_ne (tgt := 86) hx hb dX10_isCovered_40 rfl (fun hc => ?_) (fun hc => ?_)
            · have hF := (if_neg hc).symm.trans hF
              exact hb86 _ hF _ _ _ (lv_sub hl [0, 1, 2, 4] rfl) hP hS
            · have hF := (if_pos hc).symm.trans hF
              refine lv_aload_n hx hb dX10_isCovered_43 rfl (lv_at hl 0 rfl) ?_
              refine gf10_12 Z hP wd_6_12 dX10_isCovered_44 ?_
              refine lv_iconst (v := (3 : Int32)) hx hb dX10_isCovered_47 ic_3 ?_
              refine lv_iload hx hb dX10_isCovered_48 (lv_at hl 4 rfl) ?_
              refine lv_imul hx hb dX10_isCovered_50 ?_
              refine lv_iconst (v := (2 : Int32)) hx hb dX10_isCovered_51 ic_2 ?_
              refine lv_iadd hx hb dX10_isCovered_52 ?_
              obtain ⟨hi8, hF⟩ := ck_ok hF
              refine rM_ld Z hP 24 9 (by decide +kernel) hi8 dX10_isCovered_53 ?_
              refine lv_iload_n hx hb dX10_isCovered_54 rfl (lv_at hl 2 rfl) ?_
              refine lv_icmp_ne (tgt := 86) hx hb dX10_isCovered_55 rfl (fun hc => ?_) (fun hc => ?_)
              · have hF := (if_neg hc).symm.trans hF
                exact hb86 _ hF _ _ _ (lv_sub hl [0, 1, 2, 4] rfl) hP hS
              · have hF := (if_pos hc).symm.trans hF
                refine lv_iload_n hx hb dX10_isCovered_58 rfl (lv_at hl 1 rfl) ?_
                refine lv_aload_n hx hb dX10_isCovered_59 rfl (lv_at hl 0 rfl) ?_
                refine gf10_12 Z hP wd_6_12 dX10_isCovered_60 ?_
                refine lv_iconst (v := (3 : Int32)) hx hb dX10_isCovered_63 ic_3 ?_
                refine lv_iload hx hb dX10_isCovered_64 (lv_at hl 4 rfl) ?_
                refine lv_imul hx hb dX10_isCovered_66 ?_
                refine lv_iconst (v := (1 : Int32)) hx hb dX10_isCovered_67 ic_1 ?_
                refine lv_iadd hx hb dX10_isCovered_68 ?_
                obtain ⟨hi9, hF⟩ := ck_ok hF
                refine rM_ld Z hP 24 9 (by decide +kernel) hi9 dX10_isCovered_69 ?_
                refine lv_isub hx hb dX10_isCovered_70 ?_
                refine lv_i2l (v := (v1 - (mm 9 (((3 : Int32) * a4) + (1 : Int32)).toNatClampNeg)).toInt64) hx hb dX10_isCovered_71 rfl ?_
                refine lv_lconst (v := (0 : Int64)) hx hb dX10_isCovered_72 lc_0 ?_
                refine lv_ldc2 (v := (2 : Int64)) hx hb hown (hts _ wd_18_3) dX10_isCovered_73 ?_
                obtain ⟨q10, hq10, hF⟩ := bd_ok hF
                refine xX10_in Z hP hS hq10 wd_13_8 hl.1 (Nat.le_of_ble_eq_true rfl) ⟨Nat.le_of_ble_eq_true rfl, Nat.le_of_ble_eq_true rfl⟩ dX10_isCovered_76 (fun H locs hP hS => ?_)
                refine lv_if_eq (tgt := 86) hx hb dX10_isCovered_79 rfl (fun hc => ?_) (fun hc => ?_)
                · have hF := (if_pos hc).symm.trans hF
                  exact hb86 _ hF _ _ _ (lv_sub hl [0, 1, 2, 4] rfl) hP hS
                · have hF := (if_neg hc).symm.trans hF
                  exact hb82 _ hF _ _ _ (lv_sub hl [0, 1, 2, 4] rfl) hP hS
  refine lv_iconst (v := (0 : Int32)) hx hb dX10_isCovered_0 ic_0 ?_
  refine lv_istore_n (lv' := [(3, .int (0 : Int32)), (0, .ref (g.1 108)), (1, .int v1), (2, .int v2)]) hx hb dX10_isCovered_1 rfl hl (Nat.le_of_ble_eq_true rfl) rfl (fun ls hl => ?_)
  refine lv_iconst (v := (0 : Int32)) hx hb dX10_isCovered_2 ic_0 ?_
  refine lv_istore (lv' := [(4, .int (0 : Int32)), (3, .int (0 : Int32)), (0, .ref (g.1 108)), (1, .int v1), (2, .int v2)]) hx hb dX10_isCovered_3 hl (Nat.le_of_ble_eq_true rfl) rfl (fun ls hl => ?_)
  exact (hL5 FU) _ _ hF _ _ _ (lv_sub hl [2, 3, 4, 1, 0] rfl) hP hS
theorem xX10_isCovered {p : Program} {l : Launch} {e : Env} {R : Room} {s : State} {m : MethodId} {args : Array Value} {below : List Frame} {meth : Method} {c : Code} {H : Heap} {locs : List Loc} {Q : State → Prop} {cc : ByteArray} {nL : Nat} {own : String} {g : GG} {pc index : Nat} {ls : Array Slot} {rest : List Value} {mc mm : Mem} (Z : ZZ p s m args c cc nL own g) (hP : va_P g.2.2.1 vwCl (wL g mc mm) H) (hS : va_S (AA g s.heap.size) s.heap H locs) {v1 : Int32} {v2 : Int32} {q : Int32} (hq : F10_isCovered v1 v2 mm = some q) (hlk : Cond.methodLink own index yX10_isCovered ∈ wsL_law) (hsz : ls.size = nL) (hro : (rest.map fun v => v.category).sum ≤ 8) (hR : 1 + 1 ≤ R.frames ∧ 8 + (5 + 11) + 25 ≤ R.locals) (hdg : decode cc pc = .ok (.invokevirtual index, 3)) (kk : ∀ (H : Heap) (locs : List Loc), va_P g.2.2.1 vwCl (wL g mc mm) H → va_S (AA g s.heap.size) s.heap H locs → W p l e R s m args below meth c H locs 0 0 Q (F0 m (pc + 3) ls (.int q :: rest))) : W p l e R s m args below meth c H locs 0 0 Q (F0 m pc ls (.int v2 :: .int v1 :: .ref (g.1 108) :: rest)) :=
  x_VI Z hP hS (kX10_isCovered l g v1 v2 mc mm q hq) (mO) (ci := 10) (by decide) rfl rfl mf_X10_isCovered mv_X10_isCovered hlk rfl rfl hsz hro hR hdg kk
theorem dX10_isCoin_0 : decode cX10_isCoin 0 = .ok (.aload_n 0, 1) := by decide +kernel
theorem dX10_isCoin_1 : decode cX10_isCoin 1 = .ok (.getfield 77, 3) := by decide +kernel
theorem dX10_isCoin_4 : decode cX10_isCoin 4 = .ok (.iload_n 1, 1) := by decide +kernel
theorem dX10_isCoin_5 : decode cX10_isCoin 5 = .ok (.if_icmp .ne 15, 3) := by decide +kernel
theorem dX10_isCoin_8 : decode cX10_isCoin 8 = .ok (.aload_n 0, 1) := by decide +kernel
theorem dX10_isCoin_9 : decode cX10_isCoin 9 = .ok (.getfield 194, 3) := by decide +kernel
theorem dX10_isCoin_12 : decode cX10_isCoin 12 = .ok (.iload_n 2, 1) := by decide +kernel
theorem dX10_isCoin_13 : decode cX10_isCoin 13 = .ok (.if_icmp .ne 7, 3) := by decide +kernel
theorem dX10_isCoin_16 : decode cX10_isCoin 16 = .ok (.iconst 1, 1) := by decide +kernel
theorem dX10_isCoin_17 : decode cX10_isCoin 17 = .ok (.goto 4, 3) := by decide +kernel
theorem dX10_isCoin_20 : decode cX10_isCoin 20 = .ok (.iconst 0, 1) := by decide +kernel
theorem dX10_isCoin_21 : decode cX10_isCoin 21 = .ok (.istore_n 3, 1) := by decide +kernel
theorem dX10_isCoin_22 : decode cX10_isCoin 22 = .ok (.iconst 0, 1) := by decide +kernel
theorem dX10_isCoin_23 : decode cX10_isCoin 23 = .ok (.istore 4, 2) := by decide +kernel
theorem dX10_isCoin_25 : decode cX10_isCoin 25 = .ok (.iload 4, 2) := by decide +kernel
theorem dX10_isCoin_27 : decode cX10_isCoin 27 = .ok (.aload_n 0, 1) := by decide +kernel
theorem dX10_isCoin_28 : decode cX10_isCoin 28 = .ok (.getfield 172, 3) := by decide +kernel
theorem dX10_isCoin_31 : decode cX10_isCoin 31 = .ok (.if_icmp .ge 73, 3) := by decide +kernel
theorem dX10_isCoin_34 : decode cX10_isCoin 34 = .ok (.iload_n 3, 1) := by decide +kernel
theorem dX10_isCoin_35 : decode cX10_isCoin 35 = .ok (.ifCond .ne 57, 3) := by decide +kernel
theorem dX10_isCoin_38 : decode cX10_isCoin 38 = .ok (.aload_n 0, 1) := by decide +kernel
theorem dX10_isCoin_39 : decode cX10_isCoin 39 = .ok (.getfield 187, 3) := by decide +kernel
theorem dX10_isCoin_42 : decode cX10_isCoin 42 = .ok (.iload 4, 2) := by decide +kernel
theorem dX10_isCoin_44 : decode cX10_isCoin 44 = .ok (.invokestatic 190, 3) := by decide +kernel
theorem dX10_isCoin_47 : decode cX10_isCoin 47 = .ok (.ifCond .ne 49, 3) := by decide +kernel
theorem dX10_isCoin_50 : decode cX10_isCoin 50 = .ok (.aload_n 0, 1) := by decide +kernel
theorem dX10_isCoin_51 : decode cX10_isCoin 51 = .ok (.getfield 34, 3) := by decide +kernel
theorem dX10_isCoin_54 : decode cX10_isCoin 54 = .ok (.iconst 3, 1) := by decide +kernel
theorem dX10_isCoin_55 : decode cX10_isCoin 55 = .ok (.iload 4, 2) := by decide +kernel
theorem dX10_isCoin_57 : decode cX10_isCoin 57 = .ok (.imul, 1) := by decide +kernel
theorem dX10_isCoin_58 : decode cX10_isCoin 58 = .ok (.iaload, 1) := by decide +kernel
theorem dX10_isCoin_59 : decode cX10_isCoin 59 = .ok (.ifCond .ne 37, 3) := by decide +kernel
theorem dX10_isCoin_62 : decode cX10_isCoin 62 = .ok (.aload_n 0, 1) := by decide +kernel
theorem dX10_isCoin_63 : decode cX10_isCoin 63 = .ok (.getfield 34, 3) := by decide +kernel
theorem dX10_isCoin_66 : decode cX10_isCoin 66 = .ok (.iconst 3, 1) := by decide +kernel
theorem dX10_isCoin_67 : decode cX10_isCoin 67 = .ok (.iload 4, 2) := by decide +kernel
theorem dX10_isCoin_69 : decode cX10_isCoin 69 = .ok (.imul, 1) := by decide +kernel
theorem dX10_isCoin_70 : decode cX10_isCoin 70 = .ok (.iconst 1, 1) := by decide +kernel
theorem dX10_isCoin_71 : decode cX10_isCoin 71 = .ok (.iadd, 1) := by decide +kernel
theorem dX10_isCoin_72 : decode cX10_isCoin 72 = .ok (.iaload, 1) := by decide +kernel
theorem dX10_isCoin_73 : decode cX10_isCoin 73 = .ok (.iload_n 1, 1) := by decide +kernel
theorem dX10_isCoin_74 : decode cX10_isCoin 74 = .ok (.if_icmp .ne 22, 3) := by decide +kernel
theorem dX10_isCoin_77 : decode cX10_isCoin 77 = .ok (.aload_n 0, 1) := by decide +kernel
theorem dX10_isCoin_78 : decode cX10_isCoin 78 = .ok (.getfield 34, 3) := by decide +kernel
theorem dX10_isCoin_81 : decode cX10_isCoin 81 = .ok (.iconst 3, 1) := by decide +kernel
theorem dX10_isCoin_82 : decode cX10_isCoin 82 = .ok (.iload 4, 2) := by decide +kernel
theorem dX10_isCoin_84 : decode cX10_isCoin 84 = .ok (.imul, 1) := by decide +kernel
theorem dX10_isCoin_85 : decode cX10_isCoin 85 = .ok (.iconst 2, 1) := by decide +kernel
theorem dX10_isCoin_86 : decode cX10_isCoin 86 = .ok (.iadd, 1) := by decide +kernel
theorem dX10_isCoin_87 : decode cX10_isCoin 87 = .ok (.iaload, 1) := by decide +kernel
theorem dX10_isCoin_88 : decode cX10_isCoin 88 = .ok (.iload_n 2, 1) := by decide +kernel
theorem dX10_isCoin_89 : decode cX10_isCoin 89 = .ok (.if_icmp .ne 7, 3) := by decide +kernel
theorem dX10_isCoin_92 : decode cX10_isCoin 92 = .ok (.iconst 1, 1) := by decide +kernel
theorem dX10_isCoin_93 : decode cX10_isCoin 93 = .ok (.goto 4, 3) := by decide +kernel
theorem dX10_isCoin_96 : decode cX10_isCoin 96 = .ok (.iconst 0, 1) := by decide +kernel
theorem dX10_isCoin_97 : decode cX10_isCoin 97 = .ok (.istore_n 3, 1) := by decide +kernel
theorem dX10_isCoin_98 : decode cX10_isCoin 98 = .ok (.iinc 4 1, 3) := by decide +kernel
theorem dX10_isCoin_101 : decode cX10_isCoin 101 = .ok (.goto (-76), 3) := by decide +kernel
theorem dX10_isCoin_104 : decode cX10_isCoin 104 = .ok (.iload_n 3, 1) := by decide +kernel
theorem dX10_isCoin_105 : decode cX10_isCoin 105 = .ok (.ireturn, 1) := by decide +kernel
noncomputable def F10_isCoin_b97 (kh : Int32 → Int32 → Option (Int32)) (v1 : Int32) (v2 : Int32) (mm : Mem) (a4 : Int32) (s0 : Int32) : Option (Int32) :=
  kh s0 (a4 + (1 : Int32))
noncomputable def F10_isCoin_b92 (kh : Int32 → Int32 → Option (Int32)) (v1 : Int32) (v2 : Int32) (mm : Mem) (a4 : Int32) : Option (Int32) :=
  (F10_isCoin_b97 kh v1 v2 mm) a4 (1 : Int32)
noncomputable def F10_isCoin_b96 (kh : Int32 → Int32 → Option (Int32)) (v1 : Int32) (v2 : Int32) (mm : Mem) (a4 : Int32) : Option (Int32) :=
  (F10_isCoin_b97 kh v1 v2 mm) a4 (0 : Int32)
noncomputable def F10_isCoin_p25 (kh : Int32 → Int32 → Option (Int32)) (v1 : Int32) (v2 : Int32) (mm : Mem) (a3 : Int32) (a4 : Int32) : Option (Int32) :=
  (if (mm 0 11) ≤ a4 then (bz a3 (some a3)) else (if a3 = (0 : Int32) then ((F10_isIn (mm 0 13) a4).bind (fun q5 => (if q5 = (0 : Int32) then (ck ((3 : Int32) * a4) 24 (if (mm 9 ((3 : Int32) * a4).toNatClampNeg) = (0 : Int32) then (ck (((3 : Int32) * a4) + (1 : Int32)) 24 (if (mm 9 (((3 : Int32) * a4) + (1 : Int32)).toNatClampNeg) = v1 then (ck (((3 : Int32) * a4) + (2 : Int32)) 24 (if (mm 9 (((3 : Int32) * a4) + (2 : Int32)).toNatClampNeg) = v2 then (F10_isCoin_b92 kh v1 v2 mm) a4 else (F10_isCoin_b96 kh v1 v2 mm) a4)) else (F10_isCoin_b96 kh v1 v2 mm) a4)) else (F10_isCoin_b96 kh v1 v2 mm) a4)) else (F10_isCoin_b96 kh v1 v2 mm) a4))) else (F10_isCoin_b92 kh v1 v2 mm) a4))
noncomputable def F10_isCoin_h25 (v1 : Int32) (v2 : Int32) (mm : Mem) : Nat → Int32 → Int32 → Option (Int32)
  | 0, _, _ => none
  | n + 1, a3, a4 => F10_isCoin_p25 (F10_isCoin_h25 v1 v2 mm n) v1 v2 mm a3 a4
noncomputable def F10_isCoin_b21 (v1 : Int32) (v2 : Int32) (mm : Mem) (s0 : Int32) : Option (Int32) :=
  (F10_isCoin_h25 v1 v2 mm FU) s0 (0 : Int32)
noncomputable def F10_isCoin_b20 (v1 : Int32) (v2 : Int32) (mm : Mem) : Option (Int32) :=
  (F10_isCoin_b21 v1 v2 mm) (0 : Int32)
noncomputable def F10_isCoin (v1 : Int32) (v2 : Int32) (mm : Mem) : Option (Int32) :=
  (if (mm 0 14) = v1 then (if (mm 0 15) = v2 then (F10_isCoin_b21 v1 v2 mm) (1 : Int32) else (F10_isCoin_b20 v1 v2 mm)) else (F10_isCoin_b20 v1 v2 mm))
set_option maxHeartbeats 4000000 in
set_option maxRecDepth 100000 in
theorem kX10_isCoin (l : Launch) (g : GG) (v1 : Int32) (v2 : Int32) (mc mm : Mem) (q : Int32) (hF : F10_isCoin v1 v2 mm = some q) : KI l yX10_isCoin cX10_isCoin 5 .boolean 1 21 g [.ref (g.1 108), .int v1, .int v2] mc mm q (mc, mm) := by
  intro sz
  refine x_start (Qc := fun z => QI g z q (mc, mm)) (by decide +kernel) (Nat.le_of_ble_eq_true rfl) ?_ sz
  intro p e s m args below meth c ls Z hr hlk hP hl
  have hx := Z.1.1
  have hb := Z.1.2.1
  have hown := Z.1.2.2.2.1
  have hts := Z.1.2.2.2.2
  have hS : va_S (AA g s.heap.size) s.heap s.heap [] := va_S.rf
  have hl : lv_has ls 5 [(0, .ref (g.1 108)), (1, .int v1), (2, .int v2)] := hl
  unfold F10_isCoin at hF
  have hL25 : ∀ n : Nat, ∀ (a3 : Int32) (a4 : Int32), F10_isCoin_h25 v1 v2 mm n a3 a4 = some q → ∀ (H : Heap) (locs : List Loc) (ls : Array Slot), lv_has ls 5 [(0, .ref (g.1 108)), (1, .int v1), (2, .int v2), (3, .int a3), (4, .int a4)] → va_P g.2.2.1 vwCl (wL g mc mm) H → va_S (AA g s.heap.size) s.heap H locs → W p l e { frames := 1, cells := 0, slots := 0, locals := 21 } s m args below meth c H locs 0 0 (MQ below (QI g s.heap.size q (mc, mm)) args s 0 0 (AA g s.heap.size)) (F0 m 25 ls []) := by
    intro n
    induction n with
    | zero => intro a3 a4 hF H locs ls hl hP hS; exact absurd hF (fun z => nomatch (show (none : Option _) = some q from z))
    | succ n ih =>
      generalize hkh : F10_isCoin_h25 v1 v2 mm n = kh at ih
      have hb97 : ∀ (a4 : Int32) (s0 : Int32), F10_isCoin_b97 kh v1 v2 mm a4 s0 = some q → ∀ (H : Heap) (locs : List Loc) (ls : Array Slot), lv_has ls 5 [(0, .ref (g.1 108)), (1, .int v1), (2, .int v2), (4, .int a4)] → va_P g.2.2.1 vwCl (wL g mc mm) H → va_S (AA g s.heap.size) s.heap H locs → W p l e { frames := 1, cells := 0, slots := 0, locals := 21 } s m args below meth c H locs 0 0 (MQ below (QI g s.heap.size q (mc, mm)) args s 0 0 (AA g s.heap.size)) (F0 m 97 ls [.int s0]) := by
        intro a4 s0 hF H locs ls hl hP hS
        unfold F10_isCoin_b97 at hF
        refine lv_istore_n (lv' := [(3, .int s0), (0, .ref (g.1 108)), (1, .int v1), (2, .int v2), (4, .int a4)]) hx hb dX10_isCoin_97 rfl hl (Nat.le_of_ble_eq_true rfl) rfl (fun ls hl => ?_)
        refine lv_iinc (lv' := [(4, .int (a4 + (1 : Int32))), (3, .int s0), (0, .ref (g.1 108)), (1, .int v1), (2, .int v2)]) (v := (a4 + (1 : Int32))) hx hb dX10_isCoin_98 hl (k := 4) rfl (io_1 _) (Nat.le_of_ble_eq_true rfl) rfl (fun ls hl => ?_)
        refine lv_goto (tgt := 25) hx hb dX10_isCoin_101 rfl ?_
        exact ih _ _ hF _ _ _ (lv_sub hl [2, 3, 4, 1, 0] rfl) hP hS
      have hb92 : ∀ (a4 : Int32), F10_isCoin_b92 kh v1 v2 mm a4 = some q → ∀ (H : Heap) (locs : List Loc) (ls : Array Slot), lv_has ls 5 [(0, .ref (g.1 108)), (1, .int v1), (2, .int v2), (4, .int a4)] → va_P g.2.2.1 vwCl (wL g mc mm) H → va_S (AA g s.heap.size) s.heap H locs → W p l e { frames := 1, cells := 0, slots := 0, locals := 21 } s m args below meth c H locs 0 0 (MQ below (QI g s.heap.size q (mc, mm)) args s 0 0 (AA g s.heap.size)) (F0 m 92 ls []) := by
        intro a4 hF H locs ls hl hP hS
        unfold F10_isCoin_b92 at hF
        refine lv_iconst (v := (1 : Int32)) hx hb dX10_isCoin_92 ic_1 ?_
        refine lv_goto (tgt := 97) hx hb dX10_isCoin_93 rfl ?_
        exact hb97 _ _ hF _ _ _ (lv_sub hl [0, 1, 2, 3] rfl) hP hS
      have hb96 : ∀ (a4 : Int32), F10_isCoin_b96 kh v1 v2 mm a4 = some q → ∀ (H : Heap) (locs : List Loc) (ls : Array Slot), lv_has ls 5 [(0, .ref (g.1 108)), (1, .int v1), (2, .int v2), (4, .int a4)] → va_P g.2.2.1 vwCl (wL g mc mm) H → va_S (AA g s.heap.size) s.heap H locs → W p l e { frames := 1, cells := 0, slots := 0, locals := 21 } s m args below meth c H locs 0 0 (MQ below (QI g s.heap.size q (mc, mm)) args s 0 0 (AA g s.heap.size)) (F0 m 96 ls []) := by
        intro a4 hF H locs ls hl hP hS
        unfold F10_isCoin_b96 at hF
        refine lv_iconst (v := (0 : Int32)) hx hb dX10_isCoin_96 ic_0 ?_
        exact hb97 _ _ hF _ _ _ (lv_sub hl [0, 1, 2, 3] rfl) hP hS
      intro a3 a4 hF H locs ls hl hP hS
      have hF : F10_isCoin_p25 (F10_isCoin_h25 v1 v2 mm n) v1 v2 mm a3 a4 = some q := hF
      rw [hkh] at hF
      unfold F10_isCoin_p25 at hF
      refine lv_iload hx hb dX10_isCoin_25 (lv_at hl 4 rfl) ?_
      refine lv_aload_n hx hb dX10_isCoin_27 rfl (lv_at hl 0 rfl) ?_
      refine gf10_11 Z hP wd_18_4 dX10_isCoin_28 ?_
      refine lv_icmp_ge (tgt := 104) hx hb dX10_isCoin_31 rfl (fun hc => ?_) (fun hc => ?_)
      · have hF := (if_pos hc).symm.trans hF
        refine lv_iload_n hx hb dX10_isCoin_104 rfl (lv_at hl 3 rfl) ?_
        obtain ⟨hbz, hF⟩ := bz_ok hF
        exact ret_Z Z hr hlk hP hS hbz hF dX10_isCoin_105
      · have hF := (if_neg hc).symm.trans hF
        refine lv_iload_n hx hb dX10_isCoin_34 rfl (lv_at hl 3 rfl) ?_
        refine lv_if_ne (tgt := 92) hx hb dX10_isCoin_35 rfl (fun hc => ?_) (fun hc => ?_)
        · have hF := (if_neg hc).symm.trans hF
          exact hb92 _ hF _ _ _ (lv_sub hl [0, 1, 2, 4] rfl) hP hS
        · have hF := (if_pos hc).symm.trans hF
          refine lv_aload_n hx hb dX10_isCoin_38 rfl (lv_at hl 0 rfl) ?_
          refine gf10_13 Z hP wd_23_1 dX10_isCoin_39 ?_
          refine lv_iload hx hb dX10_isCoin_42 (lv_at hl 4 rfl) ?_
          obtain ⟨q5, hq5, hF⟩ := bd_ok hF
          refine xX10_isIn Z hP hS hq5 wd_23_2 hl.1 (Nat.le_of_ble_eq_true rfl) ⟨Nat.le_of_ble_eq_true rfl, Nat.le_of_ble_eq_true rfl⟩ dX10_isCoin_44 (fun H locs hP hS => ?_)
          refine lv_if_ne (tgt := 96) hx hb dX10_isCoin_47 rfl (fun hc => ?_) (fun hc => ?_)
          · have hF := (if_neg hc).symm.trans hF
            exact hb96 _ hF _ _ _ (lv_sub hl [0, 1, 2, 4] rfl) hP hS
          · have hF := (if_pos hc).symm.trans hF
            refine lv_aload_n hx hb dX10_isCoin_50 rfl (lv_at hl 0 rfl) ?_
            refine gf10_12 Z hP wd_6_12 dX10_isCoin_51 ?_
            refine lv_iconst (v := (3 : Int32)) hx hb dX10_isCoin_54 ic_3 ?_
            refine lv_iload hx hb dX10_isCoin_55 (lv_at hl 4 rfl) ?_
            refine lv_imul hx hb dX10_isCoin_57 ?_
            obtain ⟨hi6, hF⟩ := ck_ok hF
            refine rM_ld Z hP 24 9 (by decide +kernel) hi6 dX10_isCoin_58 ?_
            refine lv_if_ne (tgt := 96) hx hb dX10_isCoin_59 rfl (fun hc => ?_) (fun hc => ?_)
            · have hF := (if_neg hc).symm.trans hF
              exact hb96 _ hF _ _ _ (lv_sub hl [0, 1, 2, 4] rfl) hP hS
            · have hF := (if_pos hc).symm.trans hF
              refine lv_aload_n hx hb dX10_isCoin_62 rfl (lv_at hl 0 rfl) ?_
              refine gf10_12 Z hP wd_6_12 dX10_isCoin_63 ?_
              refine lv_iconst (v := (3 : Int32)) hx hb dX10_isCoin_66 ic_3 ?_
              refine lv_iload hx hb dX10_isCoin_67 (lv_at hl 4 rfl) ?_
              refine lv_imul hx hb dX10_isCoin_69 ?_
              refine lv_iconst (v := (1 : Int32)) hx hb dX10_isCoin_70 ic_1 ?_
              refine lv_iadd hx hb dX10_isCoin_71 ?_
              obtain ⟨hi7, hF⟩ := ck_ok hF
              refine rM_ld Z hP 24 9 (by decide +kernel) hi7 dX10_isCoin_72 ?_
              refine lv_iload_n hx hb dX10_isCoin_73 rfl (lv_at hl 1 rfl) ?_
              refine lv_icmp_ne (tgt := 96) hx hb dX10_isCoin_74 rfl (fun hc => ?_) (fun hc => ?_)
              · have hF := (if_neg hc).symm.trans hF
                exact hb96 _ hF _ _ _ (lv_sub hl [0, 1, 2, 4] rfl) hP hS
              · have hF := (if_pos hc).symm.trans hF
                refine lv_aload_n hx hb dX10_isCoin_77 rfl (lv_at hl 0 rfl) ?_
                refine gf10_12 Z hP wd_6_12 dX10_isCoin_78 ?_
                refine lv_iconst (v := (3 : Int32)) hx hb dX10_isCoin_81 ic_3 ?_
                refine lv_iload hx hb dX10_isCoin_82 (lv_at hl 4 rfl) ?_
                refine lv_imul hx hb dX10_isCoin_84 ?_
                refine lv_iconst (v := (2 : Int32)) hx hb dX10_isCoin_85 ic_2 ?_
                refine lv_iadd hx hb dX10_isCoin_86 ?_
                obtain ⟨hi8, hF⟩ := ck_ok hF
                refine rM_ld Z hP 24 9 (by decide +kernel) hi8 dX10_isCoin_87 ?_
                refine lv_iload_n hx hb dX10_isCoin_88 rfl (lv_at hl 2 rfl) ?_
                refine lv_icmp_ne (tgt := 96) hx hb dX10_isCoin_89 rfl (fun hc => ?_) (fun hc => ?_)
                · have hF := (if_neg hc).symm.trans hF
                  exact hb96 _ hF _ _ _ (lv_sub hl [0, 1, 2, 4] rfl) hP hS
                · have hF := (if_pos hc).symm.trans hF
                  exact hb92 _ hF _ _ _ (lv_sub hl [0, 1, 2, 4] rfl) hP hS
  have hb21 : ∀ (s0 : Int32), F10_isCoin_b21 v1 v2 mm s0 = some q → ∀ (H : Heap) (locs : List Loc) (ls : Array Slot), lv_has ls 5 [(0, .ref (g.1 108)), (1, .int v1), (2, .int v2)] → va_P g.2.2.1 vwCl (wL g mc mm) H → va_S (AA g s.heap.size) s.heap H locs → W p l e { frames := 1, cells := 0, slots := 0, locals := 21 } s m args below meth c H locs 0 0 (MQ below (QI g s.heap.size q (mc, mm)) args s 0 0 (AA g s.heap.size)) (F0 m 21 ls [.int s0]) := by
    intro s0 hF H locs ls hl hP hS
    unfold F10_isCoin_b21 at hF
    refine lv_istore_n (lv' := [(3, .int s0), (0, .ref (g.1 108)), (1, .int v1), (2, .int v2)]) hx hb dX10_isCoin_21 rfl hl (Nat.le_of_ble_eq_true rfl) rfl (fun ls hl => ?_)
    refine lv_iconst (v := (0 : Int32)) hx hb dX10_isCoin_22 ic_0 ?_
    refine lv_istore (lv' := [(4, .int (0 : Int32)), (3, .int s0), (0, .ref (g.1 108)), (1, .int v1), (2, .int v2)]) hx hb dX10_isCoin_23 hl (Nat.le_of_ble_eq_true rfl) rfl (fun ls hl => ?_)
    exact (hL25 FU) _ _ hF _ _ _ (lv_sub hl [2, 3, 4, 1, 0] rfl) hP hS
  have hb20 : F10_isCoin_b20 v1 v2 mm = some q → ∀ (H : Heap) (locs : List Loc) (ls : Array Slot), lv_has ls 5 [(0, .ref (g.1 108)), (1, .int v1), (2, .int v2)] → va_P g.2.2.1 vwCl (wL g mc mm) H → va_S (AA g s.heap.size) s.heap H locs → W p l e { frames := 1, cells := 0, slots := 0, locals := 21 } s m args below meth c H locs 0 0 (MQ below (QI g s.heap.size q (mc, mm)) args s 0 0 (AA g s.heap.size)) (F0 m 20 ls []) := by
    intro hF H locs ls hl hP hS
    unfold F10_isCoin_b20 at hF
    refine lv_iconst (v := (0 : Int32)) hx hb dX10_isCoin_20 ic_0 ?_
    exact hb21 _ hF _ _ _ (lv_sub hl [0, 1, 2] rfl) hP hS
  refine lv_aload_n hx hb dX10_isCoin_0 rfl (lv_at hl 0 rfl) ?_
  refine gf10_14 Z hP wd_7_2 dX10_isCoin_1 ?_
  refine lv_iload_n hx hb dX10_isCoin_4 rfl (lv_at hl 1 rfl) ?_
  refine lv_icmp_ne (tgt := 20) hx hb dX10_isCoin_5 rfl (fun hc => ?_) (fun hc => ?_)
  · have hF := (if_neg hc).symm.trans hF
    exact hb20  hF _ _ _ (lv_sub hl [0, 1, 2] rfl) hP hS
  · have hF := (if_pos hc).symm.trans hF
    refine lv_aload_n hx hb dX10_isCoin_8 rfl (lv_at hl 0 rfl) ?_
    refine gf10_15 Z hP wd_24_9 dX10_isCoin_9 ?_
    refine lv_iload_n hx hb dX10_isCoin_12 rfl (lv_at hl 2 rfl) ?_
    refine lv_icmp_ne (tgt := 20) hx hb dX10_isCoin_13 rfl (fun hc => ?_) (fun hc => ?_)
    · have hF := (if_neg hc).symm.trans hF
      exact hb20  hF _ _ _ (lv_sub hl [0, 1, 2] rfl) hP hS
    · have hF := (if_pos hc).symm.trans hF
      refine lv_iconst (v := (1 : Int32)) hx hb dX10_isCoin_16 ic_1 ?_
      refine lv_goto (tgt := 21) hx hb dX10_isCoin_17 rfl ?_
      exact hb21 _ hF _ _ _ (lv_sub hl [0, 1, 2] rfl) hP hS
theorem xX10_isCoin {p : Program} {l : Launch} {e : Env} {R : Room} {s : State} {m : MethodId} {args : Array Value} {below : List Frame} {meth : Method} {c : Code} {H : Heap} {locs : List Loc} {Q : State → Prop} {cc : ByteArray} {nL : Nat} {own : String} {g : GG} {pc index : Nat} {ls : Array Slot} {rest : List Value} {mc mm : Mem} (Z : ZZ p s m args c cc nL own g) (hP : va_P g.2.2.1 vwCl (wL g mc mm) H) (hS : va_S (AA g s.heap.size) s.heap H locs) {v1 : Int32} {v2 : Int32} {q : Int32} (hq : F10_isCoin v1 v2 mm = some q) (hlk : Cond.methodLink own index yX10_isCoin ∈ wsL_law) (hsz : ls.size = nL) (hro : (rest.map fun v => v.category).sum ≤ 8) (hR : 1 + 1 ≤ R.frames ∧ 8 + (5 + 11) + 21 ≤ R.locals) (hdg : decode cc pc = .ok (.invokevirtual index, 3)) (kk : ∀ (H : Heap) (locs : List Loc), va_P g.2.2.1 vwCl (wL g mc mm) H → va_S (AA g s.heap.size) s.heap H locs → W p l e R s m args below meth c H locs 0 0 Q (F0 m (pc + 3) ls (.int q :: rest))) : W p l e R s m args below meth c H locs 0 0 Q (F0 m pc ls (.int v2 :: .int v1 :: .ref (g.1 108) :: rest)) :=
  x_VI Z hP hS (kX10_isCoin l g v1 v2 mc mm q hq) (mO) (ci := 10) (by decide) rfl rfl mf_X10_isCoin mv_X10_isCoin hlk rfl rfl hsz hro hR hdg kk
theorem dX10_isDrought_0 : decode cX10_isDrought 0 = .ok (.iconst 0, 1) := by decide +kernel
theorem dX10_isDrought_1 : decode cX10_isDrought 1 = .ok (.istore_n 2, 1) := by decide +kernel
theorem dX10_isDrought_2 : decode cX10_isDrought 2 = .ok (.iconst 0, 1) := by decide +kernel
theorem dX10_isDrought_3 : decode cX10_isDrought 3 = .ok (.istore_n 3, 1) := by decide +kernel
theorem dX10_isDrought_4 : decode cX10_isDrought 4 = .ok (.iload_n 3, 1) := by decide +kernel
theorem dX10_isDrought_5 : decode cX10_isDrought 5 = .ok (.aload_n 0, 1) := by decide +kernel
theorem dX10_isDrought_6 : decode cX10_isDrought 6 = .ok (.getfield 172, 3) := by decide +kernel
theorem dX10_isDrought_9 : decode cX10_isDrought 9 = .ok (.if_icmp .ge 56, 3) := by decide +kernel
theorem dX10_isDrought_12 : decode cX10_isDrought 12 = .ok (.iload_n 2, 1) := by decide +kernel
theorem dX10_isDrought_13 : decode cX10_isDrought 13 = .ok (.ifCond .ne 40, 3) := by decide +kernel
theorem dX10_isDrought_16 : decode cX10_isDrought 16 = .ok (.aload_n 0, 1) := by decide +kernel
theorem dX10_isDrought_17 : decode cX10_isDrought 17 = .ok (.getfield 187, 3) := by decide +kernel
theorem dX10_isDrought_20 : decode cX10_isDrought 20 = .ok (.iload_n 3, 1) := by decide +kernel
theorem dX10_isDrought_21 : decode cX10_isDrought 21 = .ok (.invokestatic 190, 3) := by decide +kernel
theorem dX10_isDrought_24 : decode cX10_isDrought 24 = .ok (.ifCond .ne 33, 3) := by decide +kernel
theorem dX10_isDrought_27 : decode cX10_isDrought 27 = .ok (.aload_n 0, 1) := by decide +kernel
theorem dX10_isDrought_28 : decode cX10_isDrought 28 = .ok (.getfield 34, 3) := by decide +kernel
theorem dX10_isDrought_31 : decode cX10_isDrought 31 = .ok (.iconst 3, 1) := by decide +kernel
theorem dX10_isDrought_32 : decode cX10_isDrought 32 = .ok (.iload_n 3, 1) := by decide +kernel
theorem dX10_isDrought_33 : decode cX10_isDrought 33 = .ok (.imul, 1) := by decide +kernel
theorem dX10_isDrought_34 : decode cX10_isDrought 34 = .ok (.iaload, 1) := by decide +kernel
theorem dX10_isDrought_35 : decode cX10_isDrought 35 = .ok (.iconst 2, 1) := by decide +kernel
theorem dX10_isDrought_36 : decode cX10_isDrought 36 = .ok (.if_icmp .ne 21, 3) := by decide +kernel
theorem dX10_isDrought_39 : decode cX10_isDrought 39 = .ok (.aload_n 0, 1) := by decide +kernel
theorem dX10_isDrought_40 : decode cX10_isDrought 40 = .ok (.getfield 34, 3) := by decide +kernel
theorem dX10_isDrought_43 : decode cX10_isDrought 43 = .ok (.iconst 3, 1) := by decide +kernel
theorem dX10_isDrought_44 : decode cX10_isDrought 44 = .ok (.iload_n 3, 1) := by decide +kernel
theorem dX10_isDrought_45 : decode cX10_isDrought 45 = .ok (.imul, 1) := by decide +kernel
theorem dX10_isDrought_46 : decode cX10_isDrought 46 = .ok (.iconst 1, 1) := by decide +kernel
theorem dX10_isDrought_47 : decode cX10_isDrought 47 = .ok (.iadd, 1) := by decide +kernel
theorem dX10_isDrought_48 : decode cX10_isDrought 48 = .ok (.iaload, 1) := by decide +kernel
theorem dX10_isDrought_49 : decode cX10_isDrought 49 = .ok (.iload_n 1, 1) := by decide +kernel
theorem dX10_isDrought_50 : decode cX10_isDrought 50 = .ok (.if_icmp .ne 7, 3) := by decide +kernel
theorem dX10_isDrought_53 : decode cX10_isDrought 53 = .ok (.iconst 1, 1) := by decide +kernel
theorem dX10_isDrought_54 : decode cX10_isDrought 54 = .ok (.goto 4, 3) := by decide +kernel
theorem dX10_isDrought_57 : decode cX10_isDrought 57 = .ok (.iconst 0, 1) := by decide +kernel
theorem dX10_isDrought_58 : decode cX10_isDrought 58 = .ok (.istore_n 2, 1) := by decide +kernel
theorem dX10_isDrought_59 : decode cX10_isDrought 59 = .ok (.iinc 3 1, 3) := by decide +kernel
theorem dX10_isDrought_62 : decode cX10_isDrought 62 = .ok (.goto (-58), 3) := by decide +kernel
theorem dX10_isDrought_65 : decode cX10_isDrought 65 = .ok (.iload_n 2, 1) := by decide +kernel
theorem dX10_isDrought_66 : decode cX10_isDrought 66 = .ok (.ireturn, 1) := by decide +kernel
noncomputable def F10_isDrought_b58 (kh : Int32 → Int32 → Option (Int32)) (v1 : Int32) (mm : Mem) (a3 : Int32) (s0 : Int32) : Option (Int32) :=
  kh s0 (a3 + (1 : Int32))
noncomputable def F10_isDrought_b53 (kh : Int32 → Int32 → Option (Int32)) (v1 : Int32) (mm : Mem) (a3 : Int32) : Option (Int32) :=
  (F10_isDrought_b58 kh v1 mm) a3 (1 : Int32)
noncomputable def F10_isDrought_b57 (kh : Int32 → Int32 → Option (Int32)) (v1 : Int32) (mm : Mem) (a3 : Int32) : Option (Int32) :=
  (F10_isDrought_b58 kh v1 mm) a3 (0 : Int32)
noncomputable def F10_isDrought_p4 (kh : Int32 → Int32 → Option (Int32)) (v1 : Int32) (mm : Mem) (a2 : Int32) (a3 : Int32) : Option (Int32) :=
  (if (mm 0 11) ≤ a3 then (bz a2 (some a2)) else (if a2 = (0 : Int32) then ((F10_isIn (mm 0 13) a3).bind (fun q4 => (if q4 = (0 : Int32) then (ck ((3 : Int32) * a3) 24 (if (mm 9 ((3 : Int32) * a3).toNatClampNeg) = (2 : Int32) then (ck (((3 : Int32) * a3) + (1 : Int32)) 24 (if (mm 9 (((3 : Int32) * a3) + (1 : Int32)).toNatClampNeg) = v1 then (F10_isDrought_b53 kh v1 mm) a3 else (F10_isDrought_b57 kh v1 mm) a3)) else (F10_isDrought_b57 kh v1 mm) a3)) else (F10_isDrought_b57 kh v1 mm) a3))) else (F10_isDrought_b53 kh v1 mm) a3))
noncomputable def F10_isDrought_h4 (v1 : Int32) (mm : Mem) : Nat → Int32 → Int32 → Option (Int32)
  | 0, _, _ => none
  | n + 1, a2, a3 => F10_isDrought_p4 (F10_isDrought_h4 v1 mm n) v1 mm a2 a3
noncomputable def F10_isDrought (v1 : Int32) (mm : Mem) : Option (Int32) :=
  (F10_isDrought_h4 v1 mm FU) (0 : Int32) (0 : Int32)
set_option maxHeartbeats 4000000 in
set_option maxRecDepth 100000 in
theorem kX10_isDrought (l : Launch) (g : GG) (v1 : Int32) (mc mm : Mem) (q : Int32) (hF : F10_isDrought v1 mm = some q) : KI l yX10_isDrought cX10_isDrought 4 .boolean 1 21 g [.ref (g.1 108), .int v1] mc mm q (mc, mm) := by
  intro sz
  refine x_start (Qc := fun z => QI g z q (mc, mm)) (by decide +kernel) (Nat.le_of_ble_eq_true rfl) ?_ sz
  intro p e s m args below meth c ls Z hr hlk hP hl
  have hx := Z.1.1
  have hb := Z.1.2.1
  have hown := Z.1.2.2.2.1
  have hts := Z.1.2.2.2.2
  have hS : va_S (AA g s.heap.size) s.heap s.heap [] := va_S.rf
  have hl : lv_has ls 4 [(0, .ref (g.1 108)), (1, .int v1)] := hl
  unfold F10_isDrought at hF
  have hL4 : ∀ n : Nat, ∀ (a2 : Int32) (a3 : Int32), F10_isDrought_h4 v1 mm n a2 a3 = some q → ∀ (H : Heap) (locs : List Loc) (ls : Array Slot), lv_has ls 4 [(0, .ref (g.1 108)), (1, .int v1), (2, .int a2), (3, .int a3)] → va_P g.2.2.1 vwCl (wL g mc mm) H → va_S (AA g s.heap.size) s.heap H locs → W p l e { frames := 1, cells := 0, slots := 0, locals := 21 } s m args below meth c H locs 0 0 (MQ below (QI g s.heap.size q (mc, mm)) args s 0 0 (AA g s.heap.size)) (F0 m 4 ls []) := by
    intro n
    induction n with
    | zero => intro a2 a3 hF H locs ls hl hP hS; exact absurd hF (fun z => nomatch (show (none : Option _) = some q from z))
    | succ n ih =>
      generalize hkh : F10_isDrought_h4 v1 mm n = kh at ih
      have hb58 : ∀ (a3 : Int32) (s0 : Int32), F10_isDrought_b58 kh v1 mm a3 s0 = some q → ∀ (H : Heap) (locs : List Loc) (ls : Array Slot), lv_has ls 4 [(0, .ref (g.1 108)), (1, .int v1), (3, .int a3)] → va_P g.2.2.1 vwCl (wL g mc mm) H → va_S (AA g s.heap.size) s.heap H locs → W p l e { frames := 1, cells := 0, slots := 0, locals := 21 } s m args below meth c H locs 0 0 (MQ below (QI g s.heap.size q (mc, mm)) args s 0 0 (AA g s.heap.size)) (F0 m 58 ls [.int s0]) := by
        intro a3 s0 hF H locs ls hl hP hS
        unfold F10_isDrought_b58 at hF
        refine lv_istore_n (lv' := [(2, .int s0), (0, .ref (g.1 108)), (1, .int v1), (3, .int a3)]) hx hb dX10_isDrought_58 rfl hl (Nat.le_of_ble_eq_true rfl) rfl (fun ls hl => ?_)
        refine lv_iinc (lv' := [(3, .int (a3 + (1 : Int32))), (2, .int s0), (0, .ref (g.1 108)), (1, .int v1)]) (v := (a3 + (1 : Int32))) hx hb dX10_isDrought_59 hl (k := 3) rfl (io_1 _) (Nat.le_of_ble_eq_true rfl) rfl (fun ls hl => ?_)
        refine lv_goto (tgt := 4) hx hb dX10_isDrought_62 rfl ?_
        exact ih _ _ hF _ _ _ (lv_sub hl [2, 3, 1, 0] rfl) hP hS
      have hb53 : ∀ (a3 : Int32), F10_isDrought_b53 kh v1 mm a3 = some q → ∀ (H : Heap) (locs : List Loc) (ls : Array Slot), lv_has ls 4 [(0, .ref (g.1 108)), (1, .int v1), (3, .int a3)] → va_P g.2.2.1 vwCl (wL g mc mm) H → va_S (AA g s.heap.size) s.heap H locs → W p l e { frames := 1, cells := 0, slots := 0, locals := 21 } s m args below meth c H locs 0 0 (MQ below (QI g s.heap.size q (mc, mm)) args s 0 0 (AA g s.heap.size)) (F0 m 53 ls []) := by
        intro a3 hF H locs ls hl hP hS
        unfold F10_isDrought_b53 at hF
        refine lv_iconst (v := (1 : Int32)) hx hb dX10_isDrought_53 ic_1 ?_
        refine lv_goto (tgt := 58) hx hb dX10_isDrought_54 rfl ?_
        exact hb58 _ _ hF _ _ _ (lv_sub hl [0, 1, 2] rfl) hP hS
      have hb57 : ∀ (a3 : Int32), F10_isDrought_b57 kh v1 mm a3 = some q → ∀ (H : Heap) (locs : List Loc) (ls : Array Slot), lv_has ls 4 [(0, .ref (g.1 108)), (1, .int v1), (3, .int a3)] → va_P g.2.2.1 vwCl (wL g mc mm) H → va_S (AA g s.heap.size) s.heap H locs → W p l e { frames := 1, cells := 0, slots := 0, locals := 21 } s m args below meth c H locs 0 0 (MQ below (QI g s.heap.size q (mc, mm)) args s 0 0 (AA g s.heap.size)) (F0 m 57 ls []) := by
        intro a3 hF H locs ls hl hP hS
        unfold F10_isDrought_b57 at hF
        refine lv_iconst (v := (0 : Int32)) hx hb dX10_isDrought_57 ic_0 ?_
        exact hb58 _ _ hF _ _ _ (lv_sub hl [0, 1, 2] rfl) hP hS
      intro a2 a3 hF H locs ls hl hP hS
      have hF : F10_isDrought_p4 (F10_isDrought_h4 v1 mm n) v1 mm a2 a3 = some q := hF
      rw [hkh] at hF
      unfold F10_isDrought_p4 at hF
      refine lv_iload_n hx hb dX10_isDrought_4 rfl (lv_at hl 3 rfl) ?_
      refine lv_aload_n hx hb dX10_isDrought_5 rfl (lv_at hl 0 rfl) ?_
      refine gf10_11 Z hP wd_18_4 dX10_isDrought_6 ?_
      refine lv_icmp_ge (tgt := 65) hx hb dX10_isDrought_9 rfl (fun hc => ?_) (fun hc => ?_)
      · have hF := (if_pos hc).symm.trans hF
        refine lv_iload_n hx hb dX10_isDrought_65 rfl (lv_at hl 2 rfl) ?_
        obtain ⟨hbz, hF⟩ := bz_ok hF
        exact ret_Z Z hr hlk hP hS hbz hF dX10_isDrought_66
      · have hF := (if_neg hc).symm.trans hF
        refine lv_iload_n hx hb dX10_isDrought_12 rfl (lv_at hl 2 rfl) ?_
        refine lv_if_ne (tgt := 53) hx hb dX10_isDrought_13 rfl (fun hc => ?_) (fun hc => ?_)
        · have hF := (if_neg hc).symm.trans hF
          exact hb53 _ hF _ _ _ (lv_sub hl [0, 1, 3] rfl) hP hS
        · have hF := (if_pos hc).symm.trans hF
          refine lv_aload_n hx hb dX10_isDrought_16 rfl (lv_at hl 0 rfl) ?_
          refine gf10_13 Z hP wd_23_1 dX10_isDrought_17 ?_
          refine lv_iload_n hx hb dX10_isDrought_20 rfl (lv_at hl 3 rfl) ?_
          obtain ⟨q4, hq4, hF⟩ := bd_ok hF
          refine xX10_isIn Z hP hS hq4 wd_23_2 hl.1 (Nat.le_of_ble_eq_true rfl) ⟨Nat.le_of_ble_eq_true rfl, Nat.le_of_ble_eq_true rfl⟩ dX10_isDrought_21 (fun H locs hP hS => ?_)
          refine lv_if_ne (tgt := 57) hx hb dX10_isDrought_24 rfl (fun hc => ?_) (fun hc => ?_)
          · have hF := (if_neg hc).symm.trans hF
            exact hb57 _ hF _ _ _ (lv_sub hl [0, 1, 3] rfl) hP hS
          · have hF := (if_pos hc).symm.trans hF
            refine lv_aload_n hx hb dX10_isDrought_27 rfl (lv_at hl 0 rfl) ?_
            refine gf10_12 Z hP wd_6_12 dX10_isDrought_28 ?_
            refine lv_iconst (v := (3 : Int32)) hx hb dX10_isDrought_31 ic_3 ?_
            refine lv_iload_n hx hb dX10_isDrought_32 rfl (lv_at hl 3 rfl) ?_
            refine lv_imul hx hb dX10_isDrought_33 ?_
            obtain ⟨hi5, hF⟩ := ck_ok hF
            refine rM_ld Z hP 24 9 (by decide +kernel) hi5 dX10_isDrought_34 ?_
            refine lv_iconst (v := (2 : Int32)) hx hb dX10_isDrought_35 ic_2 ?_
            refine lv_icmp_ne (tgt := 57) hx hb dX10_isDrought_36 rfl (fun hc => ?_) (fun hc => ?_)
            · have hF := (if_neg hc).symm.trans hF
              exact hb57 _ hF _ _ _ (lv_sub hl [0, 1, 3] rfl) hP hS
            · have hF := (if_pos hc).symm.trans hF
              refine lv_aload_n hx hb dX10_isDrought_39 rfl (lv_at hl 0 rfl) ?_
              refine gf10_12 Z hP wd_6_12 dX10_isDrought_40 ?_
              refine lv_iconst (v := (3 : Int32)) hx hb dX10_isDrought_43 ic_3 ?_
              refine lv_iload_n hx hb dX10_isDrought_44 rfl (lv_at hl 3 rfl) ?_
              refine lv_imul hx hb dX10_isDrought_45 ?_
              refine lv_iconst (v := (1 : Int32)) hx hb dX10_isDrought_46 ic_1 ?_
              refine lv_iadd hx hb dX10_isDrought_47 ?_
              obtain ⟨hi6, hF⟩ := ck_ok hF
              refine rM_ld Z hP 24 9 (by decide +kernel) hi6 dX10_isDrought_48 ?_
              refine lv_iload_n hx hb dX10_isDrought_49 rfl (lv_at hl 1 rfl) ?_
              refine lv_icmp_ne (tgt := 57) hx hb dX10_isDrought_50 rfl (fun hc => ?_) (fun hc => ?_)
              · have hF := (if_neg hc).symm.trans hF
                exact hb57 _ hF _ _ _ (lv_sub hl [0, 1, 3] rfl) hP hS
              · have hF := (if_pos hc).symm.trans hF
                exact hb53 _ hF _ _ _ (lv_sub hl [0, 1, 3] rfl) hP hS
  refine lv_iconst (v := (0 : Int32)) hx hb dX10_isDrought_0 ic_0 ?_
  refine lv_istore_n (lv' := [(2, .int (0 : Int32)), (0, .ref (g.1 108)), (1, .int v1)]) hx hb dX10_isDrought_1 rfl hl (Nat.le_of_ble_eq_true rfl) rfl (fun ls hl => ?_)
  refine lv_iconst (v := (0 : Int32)) hx hb dX10_isDrought_2 ic_0 ?_
  refine lv_istore_n (lv' := [(3, .int (0 : Int32)), (2, .int (0 : Int32)), (0, .ref (g.1 108)), (1, .int v1)]) hx hb dX10_isDrought_3 rfl hl (Nat.le_of_ble_eq_true rfl) rfl (fun ls hl => ?_)
  exact (hL4 FU) _ _ hF _ _ _ (lv_sub hl [2, 3, 1, 0] rfl) hP hS
theorem xX10_isDrought {p : Program} {l : Launch} {e : Env} {R : Room} {s : State} {m : MethodId} {args : Array Value} {below : List Frame} {meth : Method} {c : Code} {H : Heap} {locs : List Loc} {Q : State → Prop} {cc : ByteArray} {nL : Nat} {own : String} {g : GG} {pc index : Nat} {ls : Array Slot} {rest : List Value} {mc mm : Mem} (Z : ZZ p s m args c cc nL own g) (hP : va_P g.2.2.1 vwCl (wL g mc mm) H) (hS : va_S (AA g s.heap.size) s.heap H locs) {v1 : Int32} {q : Int32} (hq : F10_isDrought v1 mm = some q) (hlk : Cond.methodLink own index yX10_isDrought ∈ wsL_law) (hsz : ls.size = nL) (hro : (rest.map fun v => v.category).sum ≤ 8) (hR : 1 + 1 ≤ R.frames ∧ 8 + (4 + 11) + 21 ≤ R.locals) (hdg : decode cc pc = .ok (.invokevirtual index, 3)) (kk : ∀ (H : Heap) (locs : List Loc), va_P g.2.2.1 vwCl (wL g mc mm) H → va_S (AA g s.heap.size) s.heap H locs → W p l e R s m args below meth c H locs 0 0 Q (F0 m (pc + 3) ls (.int q :: rest))) : W p l e R s m args below meth c H locs 0 0 Q (F0 m pc ls (.int v1 :: .ref (g.1 108) :: rest)) :=
  x_VI Z hP hS (kX10_isDrought l g v1 mc mm q hq) (mO) (ci := 10) (by decide) rfl rfl mf_X10_isDrought mv_X10_isDrought hlk rfl rfl hsz hro hR hdg kk
theorem dX10_loses_0 : decode cX10_loses 0 = .ok (.aload_n 0, 1) := by decide +kernel
theorem dX10_loses_1 : decode cX10_loses 1 = .ok (.getfield 37, 3) := by decide +kernel
theorem dX10_loses_4 : decode cX10_loses 4 = .ok (.iload_n 1, 1) := by decide +kernel
theorem dX10_loses_5 : decode cX10_loses 5 = .ok (.iconst (-1), 1) := by decide +kernel
theorem dX10_loses_6 : decode cX10_loses 6 = .ok (.iastore, 1) := by decide +kernel
theorem dX10_loses_7 : decode cX10_loses 7 = .ok (.aload_n 0, 1) := by decide +kernel
theorem dX10_loses_8 : decode cX10_loses 8 = .ok (.getfield 49, 3) := by decide +kernel
theorem dX10_loses_11 : decode cX10_loses 11 = .ok (.iload_n 1, 1) := by decide +kernel
theorem dX10_loses_12 : decode cX10_loses 12 = .ok (.iconst 0, 1) := by decide +kernel
theorem dX10_loses_13 : decode cX10_loses 13 = .ok (.iastore, 1) := by decide +kernel
theorem dX10_loses_14 : decode cX10_loses 14 = .ok (.aload_n 0, 1) := by decide +kernel
theorem dX10_loses_15 : decode cX10_loses 15 = .ok (.getfield 52, 3) := by decide +kernel
theorem dX10_loses_18 : decode cX10_loses 18 = .ok (.iload_n 1, 1) := by decide +kernel
theorem dX10_loses_19 : decode cX10_loses 19 = .ok (.iconst 1, 1) := by decide +kernel
theorem dX10_loses_20 : decode cX10_loses 20 = .ok (.bastore, 1) := by decide +kernel
theorem dX10_loses_21 : decode cX10_loses 21 = .ok (.return_, 1) := by decide +kernel
noncomputable def F10_loses (v1 : Int32) (mm : Mem) : Option (Mem) :=
  (ck v1 8 (ck v1 8 (ck v1 8 (some (mset (mset (mset mm 10 v1.toNatClampNeg (-1 : Int32)) 14 v1.toNatClampNeg (0 : Int32)) 15 v1.toNatClampNeg (1 : Int32))))))
set_option maxHeartbeats 4000000 in
set_option maxRecDepth 100000 in
theorem kX10_loses (l : Launch) (g : GG) (v1 : Int32) (mc mm : Mem) (q : Mem) (hF : F10_loses v1 mm = some q) : KV l yX10_loses cX10_loses 2 0 0 g [.ref (g.1 108), .int v1] mc mm (mc, q) := by
  intro sz
  refine x_start (Qc := fun z => QV g z (mc, q)) (by decide +kernel) (Nat.le_of_ble_eq_true rfl) ?_ sz
  intro p e s m args below meth c ls Z hr hlk hP hl
  have hx := Z.1.1
  have hb := Z.1.2.1
  have hown := Z.1.2.2.2.1
  have hts := Z.1.2.2.2.2
  have hS : va_S (AA g s.heap.size) s.heap s.heap [] := va_S.rf
  have hl : lv_has ls 2 [(0, .ref (g.1 108)), (1, .int v1)] := hl
  unfold F10_loses at hF
  refine lv_aload_n hx hb dX10_loses_0 rfl (lv_at hl 0 rfl) ?_
  refine gf10_16 Z hP wd_6_13 dX10_loses_1 ?_
  refine lv_iload_n hx hb dX10_loses_4 rfl (lv_at hl 1 rfl) ?_
  refine lv_iconst (v := (-1 : Int32)) hx hb dX10_loses_5 ic_m1 ?_
  obtain ⟨hi4, hF⟩ := ck_ok hF
  refine rM_st Z hP hS 8 10 (by decide +kernel) hi4 dX10_loses_6 (fun H locs hP hS => ?_)
  refine lv_aload_n hx hb dX10_loses_7 rfl (lv_at hl 0 rfl) ?_
  refine gf10_20 Z hP wd_6_17 dX10_loses_8 ?_
  refine lv_iload_n hx hb dX10_loses_11 rfl (lv_at hl 1 rfl) ?_
  refine lv_iconst (v := (0 : Int32)) hx hb dX10_loses_12 ic_0 ?_
  obtain ⟨hi5, hF⟩ := ck_ok hF
  refine rM_st Z hP hS 8 14 (by decide +kernel) hi5 dX10_loses_13 (fun H locs hP hS => ?_)
  refine lv_aload_n hx hb dX10_loses_14 rfl (lv_at hl 0 rfl) ?_
  refine gf10_21 Z hP wd_6_18 dX10_loses_15 ?_
  refine lv_iload_n hx hb dX10_loses_18 rfl (lv_at hl 1 rfl) ?_
  refine lv_iconst (v := (1 : Int32)) hx hb dX10_loses_19 ic_1 ?_
  obtain ⟨hi6, hF⟩ := ck_ok hF
  refine rMz_st Z hP hS 8 15 (by decide +kernel) (Or.inr rfl) hi6 dX10_loses_20 (fun H locs hP hS => ?_)
  exact ret_VWM Z hr hlk hP hS hF dX10_loses_21
theorem xX10_loses {p : Program} {l : Launch} {e : Env} {R : Room} {s : State} {m : MethodId} {args : Array Value} {below : List Frame} {meth : Method} {c : Code} {H : Heap} {locs : List Loc} {Q : State → Prop} {cc : ByteArray} {nL : Nat} {own : String} {g : GG} {pc index : Nat} {ls : Array Slot} {rest : List Value} {mc mm : Mem} (Z : ZZ p s m args c cc nL own g) (hP : va_P g.2.2.1 vwCl (wL g mc mm) H) (hS : va_S (AA g s.heap.size) s.heap H locs) {v1 : Int32} {q : Mem} (hq : F10_loses v1 mm = some q) (hlk : Cond.methodLink own index yX10_loses ∈ wsL_law) (hsz : ls.size = nL) (hro : (rest.map fun v => v.category).sum ≤ 8) (hR : 0 + 1 ≤ R.frames ∧ 8 + (2 + 11) + 0 ≤ R.locals) (hdg : decode cc pc = .ok (.invokevirtual index, 3)) (kk : ∀ (H : Heap) (locs : List Loc), va_P g.2.2.1 vwCl (wL g mc q) H → va_S (AA g s.heap.size) s.heap H locs → W p l e R s m args below meth c H locs 0 0 Q (F0 m (pc + 3) ls (rest))) : W p l e R s m args below meth c H locs 0 0 Q (F0 m pc ls (.int v1 :: .ref (g.1 108) :: rest)) :=
  x_VV Z hP hS (kX10_loses l g v1 mc mm q hq) (mO) (ci := 10) (by decide) rfl rfl mf_X10_loses mv_X10_loses hlk rfl rfl hsz hro hR hdg kk
theorem dX10_comes_0 : decode cX10_comes 0 = .ok (.aload_n 0, 1) := by decide +kernel
theorem dX10_comes_1 : decode cX10_comes 1 = .ok (.getfield 37, 3) := by decide +kernel
theorem dX10_comes_4 : decode cX10_comes 4 = .ok (.iload_n 2, 1) := by decide +kernel
theorem dX10_comes_5 : decode cX10_comes 5 = .ok (.iload_n 3, 1) := by decide +kernel
theorem dX10_comes_6 : decode cX10_comes 6 = .ok (.iastore, 1) := by decide +kernel
theorem dX10_comes_7 : decode cX10_comes 7 = .ok (.aload_n 0, 1) := by decide +kernel
theorem dX10_comes_8 : decode cX10_comes 8 = .ok (.getfield 40, 3) := by decide +kernel
theorem dX10_comes_11 : decode cX10_comes 11 = .ok (.iload_n 2, 1) := by decide +kernel
theorem dX10_comes_12 : decode cX10_comes 12 = .ok (.iload_n 1, 1) := by decide +kernel
theorem dX10_comes_13 : decode cX10_comes 13 = .ok (.iastore, 1) := by decide +kernel
theorem dX10_comes_14 : decode cX10_comes 14 = .ok (.aload_n 0, 1) := by decide +kernel
theorem dX10_comes_15 : decode cX10_comes 15 = .ok (.getfield 43, 3) := by decide +kernel
theorem dX10_comes_18 : decode cX10_comes 18 = .ok (.iload_n 2, 1) := by decide +kernel
theorem dX10_comes_19 : decode cX10_comes 19 = .ok (.dup2, 1) := by decide +kernel
theorem dX10_comes_20 : decode cX10_comes 20 = .ok (.iaload, 1) := by decide +kernel
theorem dX10_comes_21 : decode cX10_comes 21 = .ok (.iconst 1, 1) := by decide +kernel
theorem dX10_comes_22 : decode cX10_comes 22 = .ok (.iadd, 1) := by decide +kernel
theorem dX10_comes_23 : decode cX10_comes 23 = .ok (.iastore, 1) := by decide +kernel
theorem dX10_comes_24 : decode cX10_comes 24 = .ok (.aload_n 0, 1) := by decide +kernel
theorem dX10_comes_25 : decode cX10_comes 25 = .ok (.getfield 43, 3) := by decide +kernel
theorem dX10_comes_28 : decode cX10_comes 28 = .ok (.iload_n 2, 1) := by decide +kernel
theorem dX10_comes_29 : decode cX10_comes 29 = .ok (.iaload, 1) := by decide +kernel
theorem dX10_comes_30 : decode cX10_comes 30 = .ok (.iconst 2, 1) := by decide +kernel
theorem dX10_comes_31 : decode cX10_comes 31 = .ok (.irem, 1) := by decide +kernel
theorem dX10_comes_32 : decode cX10_comes 32 = .ok (.ifCond .ne 38, 3) := by decide +kernel
theorem dX10_comes_35 : decode cX10_comes 35 = .ok (.aload_n 0, 1) := by decide +kernel
theorem dX10_comes_36 : decode cX10_comes 36 = .ok (.getfield 31, 3) := by decide +kernel
theorem dX10_comes_39 : decode cX10_comes 39 = .ok (.bipush 8, 2) := by decide +kernel
theorem dX10_comes_41 : decode cX10_comes 41 = .ok (.iload_n 2, 1) := by decide +kernel
theorem dX10_comes_42 : decode cX10_comes 42 = .ok (.imul, 1) := by decide +kernel
theorem dX10_comes_43 : decode cX10_comes 43 = .ok (.iconst 2, 1) := by decide +kernel
theorem dX10_comes_44 : decode cX10_comes 44 = .ok (.iadd, 1) := by decide +kernel
theorem dX10_comes_45 : decode cX10_comes 45 = .ok (.iaload, 1) := by decide +kernel
theorem dX10_comes_46 : decode cX10_comes 46 = .ok (.iconst 1, 1) := by decide +kernel
theorem dX10_comes_47 : decode cX10_comes 47 = .ok (.if_icmp .ne 23, 3) := by decide +kernel
theorem dX10_comes_50 : decode cX10_comes 50 = .ok (.aload_n 0, 1) := by decide +kernel
theorem dX10_comes_51 : decode cX10_comes 51 = .ok (.getfield 46, 3) := by decide +kernel
theorem dX10_comes_54 : decode cX10_comes 54 = .ok (.iload_n 2, 1) := by decide +kernel
theorem dX10_comes_55 : decode cX10_comes 55 = .ok (.dup2, 1) := by decide +kernel
theorem dX10_comes_56 : decode cX10_comes 56 = .ok (.iaload, 1) := by decide +kernel
theorem dX10_comes_57 : decode cX10_comes 57 = .ok (.iconst 1, 1) := by decide +kernel
theorem dX10_comes_58 : decode cX10_comes 58 = .ok (.iadd, 1) := by decide +kernel
theorem dX10_comes_59 : decode cX10_comes 59 = .ok (.iastore, 1) := by decide +kernel
theorem dX10_comes_60 : decode cX10_comes 60 = .ok (.aload_n 0, 1) := by decide +kernel
theorem dX10_comes_61 : decode cX10_comes 61 = .ok (.getfield 49, 3) := by decide +kernel
theorem dX10_comes_64 : decode cX10_comes 64 = .ok (.iload_n 2, 1) := by decide +kernel
theorem dX10_comes_65 : decode cX10_comes 65 = .ok (.dup2, 1) := by decide +kernel
theorem dX10_comes_66 : decode cX10_comes 66 = .ok (.iaload, 1) := by decide +kernel
theorem dX10_comes_67 : decode cX10_comes 67 = .ok (.iconst 1, 1) := by decide +kernel
theorem dX10_comes_68 : decode cX10_comes 68 = .ok (.isub, 1) := by decide +kernel
theorem dX10_comes_69 : decode cX10_comes 69 = .ok (.iastore, 1) := by decide +kernel
theorem dX10_comes_70 : decode cX10_comes 70 = .ok (.aload_n 0, 1) := by decide +kernel
theorem dX10_comes_71 : decode cX10_comes 71 = .ok (.getfield 49, 3) := by decide +kernel
theorem dX10_comes_74 : decode cX10_comes 74 = .ok (.iload_n 2, 1) := by decide +kernel
theorem dX10_comes_75 : decode cX10_comes 75 = .ok (.dup2, 1) := by decide +kernel
theorem dX10_comes_76 : decode cX10_comes 76 = .ok (.iaload, 1) := by decide +kernel
theorem dX10_comes_77 : decode cX10_comes 77 = .ok (.aload_n 0, 1) := by decide +kernel
theorem dX10_comes_78 : decode cX10_comes 78 = .ok (.getfield 28, 3) := by decide +kernel
theorem dX10_comes_81 : decode cX10_comes 81 = .ok (.iconst 2, 1) := by decide +kernel
theorem dX10_comes_82 : decode cX10_comes 82 = .ok (.iload_n 3, 1) := by decide +kernel
theorem dX10_comes_83 : decode cX10_comes 83 = .ok (.imul, 1) := by decide +kernel
theorem dX10_comes_84 : decode cX10_comes 84 = .ok (.iaload, 1) := by decide +kernel
theorem dX10_comes_85 : decode cX10_comes 85 = .ok (.iconst 1, 1) := by decide +kernel
theorem dX10_comes_86 : decode cX10_comes 86 = .ok (.if_icmp .ne 7, 3) := by decide +kernel
theorem dX10_comes_89 : decode cX10_comes 89 = .ok (.iconst 1, 1) := by decide +kernel
theorem dX10_comes_90 : decode cX10_comes 90 = .ok (.goto 4, 3) := by decide +kernel
theorem dX10_comes_93 : decode cX10_comes 93 = .ok (.iconst 0, 1) := by decide +kernel
theorem dX10_comes_94 : decode cX10_comes 94 = .ok (.isub, 1) := by decide +kernel
theorem dX10_comes_95 : decode cX10_comes 95 = .ok (.iastore, 1) := by decide +kernel
theorem dX10_comes_96 : decode cX10_comes 96 = .ok (.aload_n 0, 1) := by decide +kernel
theorem dX10_comes_97 : decode cX10_comes 97 = .ok (.getfield 49, 3) := by decide +kernel
theorem dX10_comes_100 : decode cX10_comes 100 = .ok (.iload_n 2, 1) := by decide +kernel
theorem dX10_comes_101 : decode cX10_comes 101 = .ok (.iaload, 1) := by decide +kernel
theorem dX10_comes_102 : decode cX10_comes 102 = .ok (.iconst 1, 1) := by decide +kernel
theorem dX10_comes_103 : decode cX10_comes 103 = .ok (.if_icmp .ge 10, 3) := by decide +kernel
theorem dX10_comes_106 : decode cX10_comes 106 = .ok (.aload_n 0, 1) := by decide +kernel
theorem dX10_comes_107 : decode cX10_comes 107 = .ok (.iload_n 2, 1) := by decide +kernel
theorem dX10_comes_108 : decode cX10_comes 108 = .ok (.invokevirtual 197, 3) := by decide +kernel
theorem dX10_comes_111 : decode cX10_comes 111 = .ok (.iconst 0, 1) := by decide +kernel
theorem dX10_comes_112 : decode cX10_comes 112 = .ok (.ireturn, 1) := by decide +kernel
theorem dX10_comes_113 : decode cX10_comes 113 = .ok (.iconst 1, 1) := by decide +kernel
theorem dX10_comes_114 : decode cX10_comes 114 = .ok (.ireturn, 1) := by decide +kernel
noncomputable def F10_comes_b94 (v1 : Int32) (v2 : Int32) (v3 : Int32) (s1 : Int32) (s2 : Int32) (s3 : Int32) (M : Mem) : Option (Int32 × Mem) :=
  (ck s1 8 (lt (mset M 14 s1.toNatClampNeg (s2 - s3)) (fun M21 => (ck v2 8 (if (1 : Int32) ≤ (M21 14 v2.toNatClampNeg) then some ((1 : Int32), M21) else ((F10_loses v2 M21).bind (fun q23 => (some ((0 : Int32), q23)))))))))
noncomputable def F10_comes_b70 (v1 : Int32) (v2 : Int32) (v3 : Int32) (M : Mem) : Option (Int32 × Mem) :=
  (ck v2 8 (ck ((2 : Int32) * v3) 16 (if (M 7 ((2 : Int32) * v3).toNatClampNeg) = (1 : Int32) then (F10_comes_b94 v1 v2 v3) v2 (M 14 v2.toNatClampNeg) (1 : Int32) M else (F10_comes_b94 v1 v2 v3) v2 (M 14 v2.toNatClampNeg) (0 : Int32) M)))
noncomputable def F10_comes (v1 : Int32) (v2 : Int32) (v3 : Int32) (mm : Mem) : Option (Int32 × Mem) :=
  (ck v2 8 (ck v2 8 (lt (mset (mset mm 10 v2.toNatClampNeg v3) 11 v2.toNatClampNeg v1) (fun M28 => (ck v2 8 (ck v2 8 (lt (mset M28 12 v2.toNatClampNeg ((M28 12 v2.toNatClampNeg) + (1 : Int32))) (fun M31 => (ck v2 8 (if (jrem (M31 12 v2.toNatClampNeg) (2 : Int32)) = (0 : Int32) then (ck (((8 : Int32) * v2) + (2 : Int32)) 64 (if (M31 8 (((8 : Int32) * v2) + (2 : Int32)).toNatClampNeg) = (1 : Int32) then (ck v2 8 (ck v2 8 (lt (mset M31 13 v2.toNatClampNeg ((M31 13 v2.toNatClampNeg) + (1 : Int32))) (fun M36 => (ck v2 8 (ck v2 8 ((F10_comes_b70 v1 v2 v3) (mset M36 14 v2.toNatClampNeg ((M36 14 v2.toNatClampNeg) - (1 : Int32)))))))))) else (F10_comes_b70 v1 v2 v3) M31)) else (F10_comes_b70 v1 v2 v3) M31))))))))))
set_option maxHeartbeats 4000000 in
set_option maxRecDepth 100000 in
theorem kX10_comes (l : Launch) (g : GG) (v1 : Int32) (v2 : Int32) (v3 : Int32) (mc mm : Mem) (q : Int32 × Mem) (hF : F10_comes v1 v2 v3 mm = some q) : KI l yX10_comes cX10_comes 4 .boolean 1 21 g [.ref (g.1 108), .int v1, .int v2, .int v3] mc mm q.1 (mc, q.2) := by
  intro sz
  refine x_start (Qc := fun z => QI g z q.1 (mc, q.2)) (by decide +kernel) (Nat.le_of_ble_eq_true rfl) ?_ sz
  intro p e s m args below meth c ls Z hr hlk hP hl
  have hx := Z.1.1
  have hb := Z.1.2.1
  have hown := Z.1.2.2.2.1
  have hts := Z.1.2.2.2.2
  have hS : va_S (AA g s.heap.size) s.heap s.heap [] := va_S.rf
  have hl : lv_has ls 4 [(0, .ref (g.1 108)), (1, .int v1), (2, .int v2), (3, .int v3)] := hl
  unfold F10_comes at hF
  have hb94 : ∀ (s1 : Int32) (s2 : Int32) (s3 : Int32) (M : Mem), F10_comes_b94 v1 v2 v3 s1 s2 s3 M = some q → ∀ (H : Heap) (locs : List Loc) (ls : Array Slot), lv_has ls 4 [(0, .ref (g.1 108)), (2, .int v2)] → va_P g.2.2.1 vwCl (wL g mc M) H → va_S (AA g s.heap.size) s.heap H locs → W p l e { frames := 1, cells := 0, slots := 0, locals := 21 } s m args below meth c H locs 0 0 (MQ below (QI g s.heap.size q.1 (mc, q.2)) args s 0 0 (AA g s.heap.size)) (F0 m 94 ls [.int s3, .int s2, .int s1, .ref (g.1 122)]) := by
    intro s1 s2 s3 M hF H locs ls hl hP hS
    unfold F10_comes_b94 at hF
    refine lv_isub hx hb dX10_comes_94 ?_
    obtain ⟨hi20, hF⟩ := ck_ok hF
    refine rM_st Z hP hS 8 14 (by decide +kernel) hi20 dX10_comes_95 (fun H locs hP hS => ?_)
    refine lv_aload_n hx hb dX10_comes_96 rfl (lv_at hl 0 rfl) ?_
    refine gf10_20 Z hP wd_6_17 dX10_comes_97 ?_
    refine lv_iload_n hx hb dX10_comes_100 rfl (lv_at hl 1 rfl) ?_
    obtain ⟨M21, eM21, hF⟩ := lt_ok hF
    have hP : va_P g.2.2.1 vwCl (wL g mc M21) H := by rw [eM21]; exact hP
    obtain ⟨hi22, hF⟩ := ck_ok hF
    refine rM_ld Z hP 8 14 (by decide +kernel) hi22 dX10_comes_101 ?_
    refine lv_iconst (v := (1 : Int32)) hx hb dX10_comes_102 ic_1 ?_
    refine lv_icmp_ge (tgt := 113) hx hb dX10_comes_103 rfl (fun hc => ?_) (fun hc => ?_)
    · have hF := (if_pos hc).symm.trans hF
      refine lv_iconst (v := (1 : Int32)) hx hb dX10_comes_113 ic_1 ?_
      exact ret_ZWM Z hr hlk hP hS (Or.inr rfl) hF dX10_comes_114
    · have hF := (if_neg hc).symm.trans hF
      refine lv_aload_n hx hb dX10_comes_106 rfl (lv_at hl 0 rfl) ?_
      refine lv_iload_n hx hb dX10_comes_107 rfl (lv_at hl 1 rfl) ?_
      obtain ⟨q23, hq23, hF⟩ := bd_ok hF
      refine xX10_loses Z hP hS hq23 wd_23_5 hl.1 (Nat.le_of_ble_eq_true rfl) ⟨Nat.le_of_ble_eq_true rfl, Nat.le_of_ble_eq_true rfl⟩ dX10_comes_108 (fun H locs hP hS => ?_)
      refine lv_iconst (v := (0 : Int32)) hx hb dX10_comes_111 ic_0 ?_
      exact ret_ZWM Z hr hlk hP hS (Or.inl rfl) hF dX10_comes_112
  have hb70 : ∀  (M : Mem), F10_comes_b70 v1 v2 v3 M = some q → ∀ (H : Heap) (locs : List Loc) (ls : Array Slot), lv_has ls 4 [(0, .ref (g.1 108)), (2, .int v2), (3, .int v3)] → va_P g.2.2.1 vwCl (wL g mc M) H → va_S (AA g s.heap.size) s.heap H locs → W p l e { frames := 1, cells := 0, slots := 0, locals := 21 } s m args below meth c H locs 0 0 (MQ below (QI g s.heap.size q.1 (mc, q.2)) args s 0 0 (AA g s.heap.size)) (F0 m 70 ls []) := by
    intro M hF H locs ls hl hP hS
    unfold F10_comes_b70 at hF
    refine lv_aload_n hx hb dX10_comes_70 rfl (lv_at hl 0 rfl) ?_
    refine gf10_20 Z hP wd_6_17 dX10_comes_71 ?_
    refine lv_iload_n hx hb dX10_comes_74 rfl (lv_at hl 1 rfl) ?_
    refine lv_dup2_11 hx hb dX10_comes_75 rfl rfl ?_
    obtain ⟨hi24, hF⟩ := ck_ok hF
    refine rM_ld Z hP 8 14 (by decide +kernel) hi24 dX10_comes_76 ?_
    refine lv_aload_n hx hb dX10_comes_77 rfl (lv_at hl 0 rfl) ?_
    refine gf10_8 Z hP wd_6_10 dX10_comes_78 ?_
    refine lv_iconst (v := (2 : Int32)) hx hb dX10_comes_81 ic_2 ?_
    refine lv_iload_n hx hb dX10_comes_82 rfl (lv_at hl 2 rfl) ?_
    refine lv_imul hx hb dX10_comes_83 ?_
    obtain ⟨hi25, hF⟩ := ck_ok hF
    refine rM_ld Z hP 16 7 (by decide +kernel) hi25 dX10_comes_84 ?_
    refine lv_iconst (v := (1 : Int32)) hx hb dX10_comes_85 ic_1 ?_
    refine lv_icmp_ne (tgt := 93) hx hb dX10_comes_86 rfl (fun hc => ?_) (fun hc => ?_)
    · have hF := (if_neg hc).symm.trans hF
      refine lv_iconst (v := (0 : Int32)) hx hb dX10_comes_93 ic_0 ?_
      exact hb94 _ _ _ _ hF _ _ _ (lv_sub hl [0, 1] rfl) hP hS
    · have hF := (if_pos hc).symm.trans hF
      refine lv_iconst (v := (1 : Int32)) hx hb dX10_comes_89 ic_1 ?_
      refine lv_goto (tgt := 94) hx hb dX10_comes_90 rfl ?_
      exact hb94 _ _ _ _ hF _ _ _ (lv_sub hl [0, 1] rfl) hP hS
  refine lv_aload_n hx hb dX10_comes_0 rfl (lv_at hl 0 rfl) ?_
  refine gf10_16 Z hP wd_6_13 dX10_comes_1 ?_
  refine lv_iload_n hx hb dX10_comes_4 rfl (lv_at hl 2 rfl) ?_
  refine lv_iload_n hx hb dX10_comes_5 rfl (lv_at hl 3 rfl) ?_
  obtain ⟨hi26, hF⟩ := ck_ok hF
  refine rM_st Z hP hS 8 10 (by decide +kernel) hi26 dX10_comes_6 (fun H locs hP hS => ?_)
  refine lv_aload_n hx hb dX10_comes_7 rfl (lv_at hl 0 rfl) ?_
  refine gf10_17 Z hP wd_6_14 dX10_comes_8 ?_
  refine lv_iload_n hx hb dX10_comes_11 rfl (lv_at hl 2 rfl) ?_
  refine lv_iload_n hx hb dX10_comes_12 rfl (lv_at hl 1 rfl) ?_
  obtain ⟨hi27, hF⟩ := ck_ok hF
  refine rM_st Z hP hS 8 11 (by decide +kernel) hi27 dX10_comes_13 (fun H locs hP hS => ?_)
  refine lv_aload_n hx hb dX10_comes_14 rfl (lv_at hl 0 rfl) ?_
  refine gf10_18 Z hP wd_6_15 dX10_comes_15 ?_
  refine lv_iload_n hx hb dX10_comes_18 rfl (lv_at hl 2 rfl) ?_
  refine lv_dup2_11 hx hb dX10_comes_19 rfl rfl ?_
  obtain ⟨M28, eM28, hF⟩ := lt_ok hF
  have hP : va_P g.2.2.1 vwCl (wL g mc M28) H := by rw [eM28]; exact hP
  obtain ⟨hi29, hF⟩ := ck_ok hF
  refine rM_ld Z hP 8 12 (by decide +kernel) hi29 dX10_comes_20 ?_
  refine lv_iconst (v := (1 : Int32)) hx hb dX10_comes_21 ic_1 ?_
  refine lv_iadd hx hb dX10_comes_22 ?_
  obtain ⟨hi30, hF⟩ := ck_ok hF
  refine rM_st Z hP hS 8 12 (by decide +kernel) hi30 dX10_comes_23 (fun H locs hP hS => ?_)
  refine lv_aload_n hx hb dX10_comes_24 rfl (lv_at hl 0 rfl) ?_
  refine gf10_18 Z hP wd_6_15 dX10_comes_25 ?_
  refine lv_iload_n hx hb dX10_comes_28 rfl (lv_at hl 2 rfl) ?_
  obtain ⟨M31, eM31, hF⟩ := lt_ok hF
  have hP : va_P g.2.2.1 vwCl (wL g mc M31) H := by rw [eM31]; exact hP
  obtain ⟨hi32, hF⟩ := ck_ok hF
  refine rM_ld Z hP 8 12 (by decide +kernel) hi32 dX10_comes_29 ?_
  refine lv_iconst (v := (2 : Int32)) hx hb dX10_comes_30 ic_2 ?_
  refine lv_irem hx hb dX10_comes_31 (by decide) ?_
  refine lv_if_ne (tgt := 70) hx hb dX10_comes_32 rfl (fun hc => ?_) (fun hc => ?_)
  · have hF := (if_neg hc).symm.trans hF
    exact hb70 _ hF _ _ _ (lv_sub hl [0, 2, 3] rfl) hP hS
  · have hF := (if_pos hc).symm.trans hF
    refine lv_aload_n hx hb dX10_comes_35 rfl (lv_at hl 0 rfl) ?_
    refine gf10_10 Z hP wd_6_11 dX10_comes_36 ?_
    refine lv_bipush (v := (8 : Int32)) hx hb dX10_comes_39 bp_8 ?_
    refine lv_iload_n hx hb dX10_comes_41 rfl (lv_at hl 2 rfl) ?_
    refine lv_imul hx hb dX10_comes_42 ?_
    refine lv_iconst (v := (2 : Int32)) hx hb dX10_comes_43 ic_2 ?_
    refine lv_iadd hx hb dX10_comes_44 ?_
    obtain ⟨hi33, hF⟩ := ck_ok hF
    refine rM_ld Z hP 64 8 (by decide +kernel) hi33 dX10_comes_45 ?_
    refine lv_iconst (v := (1 : Int32)) hx hb dX10_comes_46 ic_1 ?_
    refine lv_icmp_ne (tgt := 70) hx hb dX10_comes_47 rfl (fun hc => ?_) (fun hc => ?_)
    · have hF := (if_neg hc).symm.trans hF
      exact hb70 _ hF _ _ _ (lv_sub hl [0, 2, 3] rfl) hP hS
    · have hF := (if_pos hc).symm.trans hF
      refine lv_aload_n hx hb dX10_comes_50 rfl (lv_at hl 0 rfl) ?_
      refine gf10_19 Z hP wd_6_16 dX10_comes_51 ?_
      refine lv_iload_n hx hb dX10_comes_54 rfl (lv_at hl 2 rfl) ?_
      refine lv_dup2_11 hx hb dX10_comes_55 rfl rfl ?_
      obtain ⟨hi34, hF⟩ := ck_ok hF
      refine rM_ld Z hP 8 13 (by decide +kernel) hi34 dX10_comes_56 ?_
      refine lv_iconst (v := (1 : Int32)) hx hb dX10_comes_57 ic_1 ?_
      refine lv_iadd hx hb dX10_comes_58 ?_
      obtain ⟨hi35, hF⟩ := ck_ok hF
      refine rM_st Z hP hS 8 13 (by decide +kernel) hi35 dX10_comes_59 (fun H locs hP hS => ?_)
      refine lv_aload_n hx hb dX10_comes_60 rfl (lv_at hl 0 rfl) ?_
      refine gf10_20 Z hP wd_6_17 dX10_comes_61 ?_
      refine lv_iload_n hx hb dX10_comes_64 rfl (lv_at hl 2 rfl) ?_
      refine lv_dup2_11 hx hb dX10_comes_65 rfl rfl ?_
      obtain ⟨M36, eM36, hF⟩ := lt_ok hF
      have hP : va_P g.2.2.1 vwCl (wL g mc M36) H := by rw [eM36]; exact hP
      obtain ⟨hi37, hF⟩ := ck_ok hF
      refine rM_ld Z hP 8 14 (by decide +kernel) hi37 dX10_comes_66 ?_
      refine lv_iconst (v := (1 : Int32)) hx hb dX10_comes_67 ic_1 ?_
      refine lv_isub hx hb dX10_comes_68 ?_
      obtain ⟨hi38, hF⟩ := ck_ok hF
      refine rM_st Z hP hS 8 14 (by decide +kernel) hi38 dX10_comes_69 (fun H locs hP hS => ?_)
      exact hb70 _ hF _ _ _ (lv_sub hl [0, 2, 3] rfl) hP hS
theorem xX10_comes {p : Program} {l : Launch} {e : Env} {R : Room} {s : State} {m : MethodId} {args : Array Value} {below : List Frame} {meth : Method} {c : Code} {H : Heap} {locs : List Loc} {Q : State → Prop} {cc : ByteArray} {nL : Nat} {own : String} {g : GG} {pc index : Nat} {ls : Array Slot} {rest : List Value} {mc mm : Mem} (Z : ZZ p s m args c cc nL own g) (hP : va_P g.2.2.1 vwCl (wL g mc mm) H) (hS : va_S (AA g s.heap.size) s.heap H locs) {v1 : Int32} {v2 : Int32} {v3 : Int32} {q : Int32 × Mem} (hq : F10_comes v1 v2 v3 mm = some q) (hlk : Cond.methodLink own index yX10_comes ∈ wsL_law) (hsz : ls.size = nL) (hro : (rest.map fun v => v.category).sum ≤ 8) (hR : 1 + 1 ≤ R.frames ∧ 8 + (4 + 11) + 21 ≤ R.locals) (hdg : decode cc pc = .ok (.invokevirtual index, 3)) (kk : ∀ (H : Heap) (locs : List Loc), va_P g.2.2.1 vwCl (wL g mc q.2) H → va_S (AA g s.heap.size) s.heap H locs → W p l e R s m args below meth c H locs 0 0 Q (F0 m (pc + 3) ls (.int q.1 :: rest))) : W p l e R s m args below meth c H locs 0 0 Q (F0 m pc ls (.int v3 :: .int v2 :: .int v1 :: .ref (g.1 108) :: rest)) :=
  x_VI Z hP hS (kX10_comes l g v1 v2 v3 mc mm q hq) (mO) (ci := 10) (by decide) rfl rfl mf_X10_comes mv_X10_comes hlk rfl rfl hsz hro hR hdg kk
theorem dX10_next_0 : decode cX10_next 0 = .ok (.iload_n 2, 1) := by decide +kernel
theorem dX10_next_1 : decode cX10_next 1 = .ok (.ifCond .eq 11, 3) := by decide +kernel
theorem dX10_next_4 : decode cX10_next 4 = .ok (.aload_n 0, 1) := by decide +kernel
theorem dX10_next_5 : decode cX10_next 5 = .ok (.iload_n 1, 1) := by decide +kernel
theorem dX10_next_6 : decode cX10_next 6 = .ok (.invokevirtual 157, 3) := by decide +kernel
theorem dX10_next_9 : decode cX10_next 9 = .ok (.goto 8, 3) := by decide +kernel
theorem dX10_next_12 : decode cX10_next 12 = .ok (.aload_n 0, 1) := by decide +kernel
theorem dX10_next_13 : decode cX10_next 13 = .ok (.iload_n 1, 1) := by decide +kernel
theorem dX10_next_14 : decode cX10_next 14 = .ok (.invokevirtual 154, 3) := by decide +kernel
theorem dX10_next_17 : decode cX10_next 17 = .ok (.ireturn, 1) := by decide +kernel
noncomputable def F10_next (v1 : Int32) (v2 : Int32) (mm : Mem) : Option (Int32) :=
  (if v2 = (0 : Int32) then ((F10_down v1 mm).bind (fun q3 => (some q3))) else ((F10_up v1 mm).bind (fun q4 => (some q4))))
set_option maxHeartbeats 4000000 in
set_option maxRecDepth 100000 in
theorem kX10_next (l : Launch) (g : GG) (v1 : Int32) (v2 : Int32) (mc mm : Mem) (q : Int32) (hF : F10_next v1 v2 mm = some q) : KI l yX10_next cX10_next 3 .int 1 24 g [.ref (g.1 108), .int v1, .int v2] mc mm q (mc, mm) := by
  intro sz
  refine x_start (Qc := fun z => QI g z q (mc, mm)) (by decide +kernel) (Nat.le_of_ble_eq_true rfl) ?_ sz
  intro p e s m args below meth c ls Z hr hlk hP hl
  have hx := Z.1.1
  have hb := Z.1.2.1
  have hown := Z.1.2.2.2.1
  have hts := Z.1.2.2.2.2
  have hS : va_S (AA g s.heap.size) s.heap s.heap [] := va_S.rf
  have hl : lv_has ls 3 [(0, .ref (g.1 108)), (1, .int v1), (2, .int v2)] := hl
  unfold F10_next at hF
  refine lv_iload_n hx hb dX10_next_0 rfl (lv_at hl 2 rfl) ?_
  refine lv_if_eq (tgt := 12) hx hb dX10_next_1 rfl (fun hc => ?_) (fun hc => ?_)
  · have hF := (if_pos hc).symm.trans hF
    refine lv_aload_n hx hb dX10_next_12 rfl (lv_at hl 0 rfl) ?_
    refine lv_iload_n hx hb dX10_next_13 rfl (lv_at hl 1 rfl) ?_
    obtain ⟨q3, hq3, hF⟩ := bd_ok hF
    refine xX10_down Z hP hS hq3 wd_16_6 hl.1 (Nat.le_of_ble_eq_true rfl) ⟨Nat.le_of_ble_eq_true rfl, Nat.le_of_ble_eq_true rfl⟩ dX10_next_14 (fun H locs hP hS => ?_)
    exact ret_I Z hr hlk hP hS hF dX10_next_17
  · have hF := (if_neg hc).symm.trans hF
    refine lv_aload_n hx hb dX10_next_4 rfl (lv_at hl 0 rfl) ?_
    refine lv_iload_n hx hb dX10_next_5 rfl (lv_at hl 1 rfl) ?_
    obtain ⟨q4, hq4, hF⟩ := bd_ok hF
    refine xX10_up Z hP hS hq4 wd_16_10 hl.1 (Nat.le_of_ble_eq_true rfl) ⟨Nat.le_of_ble_eq_true rfl, Nat.le_of_ble_eq_true rfl⟩ dX10_next_6 (fun H locs hP hS => ?_)
    refine lv_goto (tgt := 17) hx hb dX10_next_9 rfl ?_
    exact ret_I Z hr hlk hP hS hF dX10_next_17
theorem xX10_next {p : Program} {l : Launch} {e : Env} {R : Room} {s : State} {m : MethodId} {args : Array Value} {below : List Frame} {meth : Method} {c : Code} {H : Heap} {locs : List Loc} {Q : State → Prop} {cc : ByteArray} {nL : Nat} {own : String} {g : GG} {pc index : Nat} {ls : Array Slot} {rest : List Value} {mc mm : Mem} (Z : ZZ p s m args c cc nL own g) (hP : va_P g.2.2.1 vwCl (wL g mc mm) H) (hS : va_S (AA g s.heap.size) s.heap H locs) {v1 : Int32} {v2 : Int32} {q : Int32} (hq : F10_next v1 v2 mm = some q) (hlk : Cond.methodLink own index yX10_next ∈ wsL_law) (hsz : ls.size = nL) (hro : (rest.map fun v => v.category).sum ≤ 8) (hR : 1 + 1 ≤ R.frames ∧ 8 + (3 + 11) + 24 ≤ R.locals) (hdg : decode cc pc = .ok (.invokevirtual index, 3)) (kk : ∀ (H : Heap) (locs : List Loc), va_P g.2.2.1 vwCl (wL g mc mm) H → va_S (AA g s.heap.size) s.heap H locs → W p l e R s m args below meth c H locs 0 0 Q (F0 m (pc + 3) ls (.int q :: rest))) : W p l e R s m args below meth c H locs 0 0 Q (F0 m pc ls (.int v2 :: .int v1 :: .ref (g.1 108) :: rest)) :=
  x_VI Z hP hS (kX10_next l g v1 v2 mc mm q hq) (mO) (ci := 10) (by decide) rfl rfl mf_X10_next mv_X10_next hlk rfl rfl hsz hro hR hdg kk
