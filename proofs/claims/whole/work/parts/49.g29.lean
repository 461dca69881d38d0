theorem dX10_draw_0 : decode cX10_draw 0 = .ok (.iload_n 1, 1) := by decide +kernel
theorem dX10_draw_1 : decode cX10_draw 1 = .ok (.invokestatic 175, 3) := by decide +kernel
theorem dX10_draw_4 : decode cX10_draw 4 = .ok (.ifCond .eq 22, 3) := by decide +kernel
theorem dX10_draw_7 : decode cX10_draw 7 = .ok (.iload_n 2, 1) := by decide +kernel
theorem dX10_draw_8 : decode cX10_draw 8 = .ok (.invokestatic 178, 3) := by decide +kernel
theorem dX10_draw_11 : decode cX10_draw 11 = .ok (.ifCond .eq 15, 3) := by decide +kernel
theorem dX10_draw_14 : decode cX10_draw 14 = .ok (.iload_n 3, 1) := by decide +kernel
theorem dX10_draw_15 : decode cX10_draw 15 = .ok (.i2l, 1) := by decide +kernel
theorem dX10_draw_16 : decode cX10_draw 16 = .ok (.lconst 0, 1) := by decide +kernel
theorem dX10_draw_17 : decode cX10_draw 17 = .ok (.ldc2_w 239, 3) := by decide +kernel
theorem dX10_draw_20 : decode cX10_draw 20 = .ok (.invokestatic 83, 3) := by decide +kernel
theorem dX10_draw_23 : decode cX10_draw 23 = .ok (.ifCond .ne 6, 3) := by decide +kernel
theorem dX10_draw_26 : decode cX10_draw 26 = .ok (.bipush (-2), 2) := by decide +kernel
theorem dX10_draw_28 : decode cX10_draw 28 = .ok (.ireturn, 1) := by decide +kernel
theorem dX10_draw_29 : decode cX10_draw 29 = .ok (.aload_n 0, 1) := by decide +kernel
theorem dX10_draw_30 : decode cX10_draw 30 = .ok (.getfield 288, 3) := by decide +kernel
theorem dX10_draw_33 : decode cX10_draw 33 = .ok (.bipush 8, 2) := by decide +kernel
theorem dX10_draw_35 : decode cX10_draw 35 = .ok (.if_icmp .ne 6, 3) := by decide +kernel
theorem dX10_draw_38 : decode cX10_draw 38 = .ok (.bipush (-4), 2) := by decide +kernel
theorem dX10_draw_40 : decode cX10_draw 40 = .ok (.ireturn, 1) := by decide +kernel
theorem dX10_draw_41 : decode cX10_draw 41 = .ok (.aload_n 0, 1) := by decide +kernel
theorem dX10_draw_42 : decode cX10_draw 42 = .ok (.getfield 68, 3) := by decide +kernel
theorem dX10_draw_45 : decode cX10_draw 45 = .ok (.iconst 3, 1) := by decide +kernel
theorem dX10_draw_46 : decode cX10_draw 46 = .ok (.aload_n 0, 1) := by decide +kernel
theorem dX10_draw_47 : decode cX10_draw 47 = .ok (.getfield 288, 3) := by decide +kernel
theorem dX10_draw_50 : decode cX10_draw 50 = .ok (.imul, 1) := by decide +kernel
theorem dX10_draw_51 : decode cX10_draw 51 = .ok (.iload_n 1, 1) := by decide +kernel
theorem dX10_draw_52 : decode cX10_draw 52 = .ok (.iastore, 1) := by decide +kernel
theorem dX10_draw_53 : decode cX10_draw 53 = .ok (.aload_n 0, 1) := by decide +kernel
theorem dX10_draw_54 : decode cX10_draw 54 = .ok (.getfield 68, 3) := by decide +kernel
theorem dX10_draw_57 : decode cX10_draw 57 = .ok (.iconst 3, 1) := by decide +kernel
theorem dX10_draw_58 : decode cX10_draw 58 = .ok (.aload_n 0, 1) := by decide +kernel
theorem dX10_draw_59 : decode cX10_draw 59 = .ok (.getfield 288, 3) := by decide +kernel
theorem dX10_draw_62 : decode cX10_draw 62 = .ok (.imul, 1) := by decide +kernel
theorem dX10_draw_63 : decode cX10_draw 63 = .ok (.iconst 1, 1) := by decide +kernel
theorem dX10_draw_64 : decode cX10_draw 64 = .ok (.iadd, 1) := by decide +kernel
theorem dX10_draw_65 : decode cX10_draw 65 = .ok (.iload_n 2, 1) := by decide +kernel
theorem dX10_draw_66 : decode cX10_draw 66 = .ok (.iastore, 1) := by decide +kernel
theorem dX10_draw_67 : decode cX10_draw 67 = .ok (.aload_n 0, 1) := by decide +kernel
theorem dX10_draw_68 : decode cX10_draw 68 = .ok (.getfield 68, 3) := by decide +kernel
theorem dX10_draw_71 : decode cX10_draw 71 = .ok (.iconst 3, 1) := by decide +kernel
theorem dX10_draw_72 : decode cX10_draw 72 = .ok (.aload_n 0, 1) := by decide +kernel
theorem dX10_draw_73 : decode cX10_draw 73 = .ok (.getfield 288, 3) := by decide +kernel
theorem dX10_draw_76 : decode cX10_draw 76 = .ok (.imul, 1) := by decide +kernel
theorem dX10_draw_77 : decode cX10_draw 77 = .ok (.iconst 2, 1) := by decide +kernel
theorem dX10_draw_78 : decode cX10_draw 78 = .ok (.iadd, 1) := by decide +kernel
theorem dX10_draw_79 : decode cX10_draw 79 = .ok (.iload_n 3, 1) := by decide +kernel
theorem dX10_draw_80 : decode cX10_draw 80 = .ok (.iastore, 1) := by decide +kernel
theorem dX10_draw_81 : decode cX10_draw 81 = .ok (.aload_n 0, 1) := by decide +kernel
theorem dX10_draw_82 : decode cX10_draw 82 = .ok (.dup, 1) := by decide +kernel
theorem dX10_draw_83 : decode cX10_draw 83 = .ok (.getfield 288, 3) := by decide +kernel
theorem dX10_draw_86 : decode cX10_draw 86 = .ok (.iconst 1, 1) := by decide +kernel
theorem dX10_draw_87 : decode cX10_draw 87 = .ok (.iadd, 1) := by decide +kernel
theorem dX10_draw_88 : decode cX10_draw 88 = .ok (.putfield 288, 3) := by decide +kernel
theorem dX10_draw_91 : decode cX10_draw 91 = .ok (.aload_n 0, 1) := by decide +kernel
theorem dX10_draw_92 : decode cX10_draw 92 = .ok (.getfield 288, 3) := by decide +kernel
theorem dX10_draw_95 : decode cX10_draw 95 = .ok (.ireturn, 1) := by decide +kernel
noncomputable def F10_draw (v1 : Int32) (v2 : Int32) (v3 : Int32) (mm : Mem) : Option (Int32 × Mem) :=
  ((F10_isHour v1).bind (fun q11 => (if q11 = (0 : Int32) then some ((-2 : Int32), mm) else ((F10_isEight v2).bind (fun q12 => (if q12 = (0 : Int32) then some ((-2 : Int32), mm) else ((F10_in v3.toInt64 (0 : Int64) (4 : Int64)).bind (fun q13 => (if q13 = (0 : Int32) then some ((-2 : Int32), mm) else (if (mm 0 26) = (8 : Int32) then some ((-4 : Int32), mm) else (ck ((3 : Int32) * (mm 0 26)) 24 (lt (mset mm 20 ((3 : Int32) * (mm 0 26)).toNatClampNeg v1) (fun M15 => (ck (((3 : Int32) * (M15 0 26)) + (1 : Int32)) 24 (lt (mset M15 20 (((3 : Int32) * (M15 0 26)) + (1 : Int32)).toNatClampNeg v2) (fun M17 => (ck (((3 : Int32) * (M17 0 26)) + (2 : Int32)) 24 (lt (mset M17 20 (((3 : Int32) * (M17 0 26)) + (2 : Int32)).toNatClampNeg v3) (fun M19 => (lt (mset M19 0 26 ((M19 0 26) + (1 : Int32))) (fun M20 => (some ((M20 0 26), M20)))))))))))))))))))))))
set_option maxHeartbeats 4000000 in
set_option maxRecDepth 100000 in
theorem kX10_draw (l : Launch) (g : GG) (v1 : Int32) (v2 : Int32) (v3 : Int32) (mc mm : Mem) (q : Int32 × Mem) (hF : F10_draw v1 v2 v3 mm = some q) : KI l yX10_draw cX10_draw 4 .int 2 45 g [.ref (g.1 108), .int v1, .int v2, .int v3] mc mm q.1 (mc, q.2) := by
  intro sz
  refine x_start (Qc := fun z => QI g z q.1 (mc, q.2)) (by decide +kernel) (Nat.le_of_ble_eq_true rfl) ?_ sz
  intro p e s m args below meth c ls Z hr hlk hP hl
  have hx := Z.1.1
  have hb := Z.1.2.1
  have hown := Z.1.2.2.2.1
  have hts := Z.1.2.2.2.2
  have hS : va_S (AA g s.heap.size) s.heap s.heap [] := va_S.rf
  have hl : lv_has ls 4 [(0, .ref (g.1 108)), (1, .int v1), (2, .int v2), (3, .int v3)] := hl
  unfold F10_draw at hF
  refine lv_iload_n hx hb dX10_draw_0 rfl (lv_at hl 1 rfl) ?_
  obtain ⟨q11, hq11, hF⟩ := bd_ok hF
  refine xX10_isHour Z hP hS hq11 wd_18_5 hl.1 (Nat.le_of_ble_eq_true rfl) ⟨Nat.le_of_ble_eq_true rfl, Nat.le_of_ble_eq_true rfl⟩ dX10_draw_1 (fun H locs hP hS => ?_)
  refine lv_if_eq (tgt := 26) hx hb dX10_draw_4 rfl (fun hc => ?_) (fun hc => ?_)
  · have hF := (if_pos hc).symm.trans hF
    refine lv_bipush (v := (-2 : Int32)) hx hb dX10_draw_26 bp_m2 ?_
    exact ret_IWM Z hr hlk hP hS hF dX10_draw_28
  · have hF := (if_neg hc).symm.trans hF
    refine lv_iload_n hx hb dX10_draw_7 rfl (lv_at hl 2 rfl) ?_
    obtain ⟨q12, hq12, hF⟩ := bd_ok hF
    refine xX10_isEight Z hP hS hq12 wd_18_9 hl.1 (Nat.le_of_ble_eq_true rfl) ⟨Nat.le_of_ble_eq_true rfl, Nat.le_of_ble_eq_true rfl⟩ dX10_draw_8 (fun H locs hP hS => ?_)
    refine lv_if_eq (tgt := 26) hx hb dX10_draw_11 rfl (fun hc => ?_) (fun hc => ?_)
    · have hF := (if_pos hc).symm.trans hF
      refine lv_bipush (v := (-2 : Int32)) hx hb dX10_draw_26 bp_m2 ?_
      exact ret_IWM Z hr hlk hP hS hF dX10_draw_28
    · have hF := (if_neg hc).symm.trans hF
      refine lv_iload_n hx hb dX10_draw_14 rfl (lv_at hl 3 rfl) ?_
      refine lv_i2l (v := v3.toInt64) hx hb dX10_draw_15 rfl ?_
      refine lv_lconst (v := (0 : Int64)) hx hb dX10_draw_16 lc_0 ?_
      refine lv_ldc2 (v := (4 : Int64)) hx hb hown (hts _ wd_22_4) dX10_draw_17 ?_
      obtain ⟨q13, hq13, hF⟩ := bd_ok hF
      refine xX10_in Z hP hS hq13 wd_13_8 hl.1 (Nat.le_of_ble_eq_true rfl) ⟨Nat.le_of_ble_eq_true rfl, Nat.le_of_ble_eq_true rfl⟩ dX10_draw_20 (fun H locs hP hS => ?_)
      refine lv_if_ne (tgt := 29) hx hb dX10_draw_23 rfl (fun hc => ?_) (fun hc => ?_)
      · have hF := (if_neg hc).symm.trans hF
        refine lv_aload_n hx hb dX10_draw_29 rfl (lv_at hl 0 rfl) ?_
        refine gf10_26 Z hP wd_32_13 dX10_draw_30 ?_
        refine lv_bipush (v := (8 : Int32)) hx hb dX10_draw_33 bp_8 ?_
        refine lv_icmp_ne (tgt := 41) hx hb dX10_draw_35 rfl (fun hc => ?_) (fun hc => ?_)
        · have hF := (if_neg hc).symm.trans hF
          refine lv_aload_n hx hb dX10_draw_41 rfl (lv_at hl 0 rfl) ?_
          refine gf10_27 Z hP wd_6_23 dX10_draw_42 ?_
          refine lv_iconst (v := (3 : Int32)) hx hb dX10_draw_45 ic_3 ?_
          refine lv_aload_n hx hb dX10_draw_46 rfl (lv_at hl 0 rfl) ?_
          refine gf10_26 Z hP wd_32_13 dX10_draw_47 ?_
          refine lv_imul hx hb dX10_draw_50 ?_
          refine lv_iload_n hx hb dX10_draw_51 rfl (lv_at hl 1 rfl) ?_
          obtain ⟨hi14, hF⟩ := ck_ok hF
          refine rM_st Z hP hS 24 20 (by decide +kernel) hi14 dX10_draw_52 (fun H locs hP hS => ?_)
          refine lv_aload_n hx hb dX10_draw_53 rfl (lv_at hl 0 rfl) ?_
          refine gf10_27 Z hP wd_6_23 dX10_draw_54 ?_
          refine lv_iconst (v := (3 : Int32)) hx hb dX10_draw_57 ic_3 ?_
          refine lv_aload_n hx hb dX10_draw_58 rfl (lv_at hl 0 rfl) ?_
          obtain ⟨M15, eM15, hF⟩ := lt_ok hF
          have hP : va_P g.2.2.1 vwCl (wL g mc M15) H := by rw [eM15]; exact hP
          refine gf10_26 Z hP wd_32_13 dX10_draw_59 ?_
          refine lv_imul hx hb dX10_draw_62 ?_
          refine lv_iconst (v := (1 : Int32)) hx hb dX10_draw_63 ic_1 ?_
          refine lv_iadd hx hb dX10_draw_64 ?_
          refine lv_iload_n hx hb dX10_draw_65 rfl (lv_at hl 2 rfl) ?_
          obtain ⟨hi16, hF⟩ := ck_ok hF
          refine rM_st Z hP hS 24 20 (by decide +kernel) hi16 dX10_draw_66 (fun H locs hP hS => ?_)
          refine lv_aload_n hx hb dX10_draw_67 rfl (lv_at hl 0 rfl) ?_
          refine gf10_27 Z hP wd_6_23 dX10_draw_68 ?_
          refine lv_iconst (v := (3 : Int32)) hx hb dX10_draw_71 ic_3 ?_
          refine lv_aload_n hx hb dX10_draw_72 rfl (lv_at hl 0 rfl) ?_
          obtain ⟨M17, eM17, hF⟩ := lt_ok hF
          have hP : va_P g.2.2.1 vwCl (wL g mc M17) H := by rw [eM17]; exact hP
          refine gf10_26 Z hP wd_32_13 dX10_draw_73 ?_
          refine lv_imul hx hb dX10_draw_76 ?_
          refine lv_iconst (v := (2 : Int32)) hx hb dX10_draw_77 ic_2 ?_
          refine lv_iadd hx hb dX10_draw_78 ?_
          refine lv_iload_n hx hb dX10_draw_79 rfl (lv_at hl 3 rfl) ?_
          obtain ⟨hi18, hF⟩ := ck_ok hF
          refine rM_st Z hP hS 24 20 (by decide +kernel) hi18 dX10_draw_80 (fun H locs hP hS => ?_)
          refine lv_aload_n hx hb dX10_draw_81 rfl (lv_at hl 0 rfl) ?_
          refine lv_dup hx hb dX10_draw_82 rfl ?_
          obtain ⟨M19, eM19, hF⟩ := lt_ok hF
          have hP : va_P g.2.2.1 vwCl (wL g mc M19) H := by rw [eM19]; exact hP
          refine gf10_26 Z hP wd_32_13 dX10_draw_83 ?_
          refine lv_iconst (v := (1 : Int32)) hx hb dX10_draw_86 ic_1 ?_
          refine lv_iadd hx hb dX10_draw_87 ?_
          refine pf10_26 Z hP hS wd_32_13 dX10_draw_88 (fun H locs hP hS => ?_)
          refine lv_aload_n hx hb dX10_draw_91 rfl (lv_at hl 0 rfl) ?_
          obtain ⟨M20, eM20, hF⟩ := lt_ok hF
          have hP : va_P g.2.2.1 vwCl (wL g mc M20) H := by rw [eM20]; exact hP
          refine gf10_26 Z hP wd_32_13 dX10_draw_92 ?_
          exact ret_IWM Z hr hlk hP hS hF dX10_draw_95
        · have hF := (if_pos hc).symm.trans hF
          refine lv_bipush (v := (-4 : Int32)) hx hb dX10_draw_38 bp_m4 ?_
          exact ret_IWM Z hr hlk hP hS hF dX10_draw_40
      · have hF := (if_pos hc).symm.trans hF
        refine lv_bipush (v := (-2 : Int32)) hx hb dX10_draw_26 bp_m2 ?_
        exact ret_IWM Z hr hlk hP hS hF dX10_draw_28
theorem xX10_draw {p : Program} {l : Launch} {e : Env} {R : Room} {s : State} {m : MethodId} {args : Array Value} {below : List Frame} {meth : Method} {c : Code} {H : Heap} {locs : List Loc} {Q : State → Prop} {cc : ByteArray} {nL : Nat} {own : String} {g : GG} {pc index : Nat} {ls : Array Slot} {rest : List Value} {mc mm : Mem} (Z : ZZ p s m args c cc nL own g) (hP : va_P g.2.2.1 vwCl (wL g mc mm) H) (hS : va_S (AA g s.heap.size) s.heap H locs) {v1 : Int32} {v2 : Int32} {v3 : Int32} {q : Int32 × Mem} (hq : F10_draw v1 v2 v3 mm = some q) (hlk : Cond.methodLink own index yX10_draw ∈ wsL_law) (hsz : ls.size = nL) (hro : (rest.map fun v => v.category).sum ≤ 8) (hR : 2 + 1 ≤ R.frames ∧ 8 + (4 + 11) + 45 ≤ R.locals) (hdg : decode cc pc = .ok (.invokevirtual index, 3)) (kk : ∀ (H : Heap) (locs : List Loc), va_P g.2.2.1 vwCl (wL g mc q.2) H → va_S (AA g s.heap.size) s.heap H locs → W p l e R s m args below meth c H locs 0 0 Q (F0 m (pc + 3) ls (.int q.1 :: rest))) : W p l e R s m args below meth c H locs 0 0 Q (F0 m pc ls (.int v3 :: .int v2 :: .int v1 :: .ref (g.1 108) :: rest)) :=
  x_VI Z hP hS (kX10_draw l g v1 v2 v3 mc mm q hq) (mO) (ci := 10) (by decide) rfl rfl mf_X10_draw mv_X10_draw hlk rfl rfl hsz hro hR hdg kk
theorem dX10_forget_0 : decode cX10_forget 0 = .ok (.aload_n 0, 1) := by decide +kernel
theorem dX10_forget_1 : decode cX10_forget 1 = .ok (.getfield 288, 3) := by decide +kernel
theorem dX10_forget_4 : decode cX10_forget 4 = .ok (.istore_n 1, 1) := by decide +kernel
theorem dX10_forget_5 : decode cX10_forget 5 = .ok (.aload_n 0, 1) := by decide +kernel
theorem dX10_forget_6 : decode cX10_forget 6 = .ok (.iconst 0, 1) := by decide +kernel
theorem dX10_forget_7 : decode cX10_forget 7 = .ok (.putfield 288, 3) := by decide +kernel
theorem dX10_forget_10 : decode cX10_forget 10 = .ok (.iload_n 1, 1) := by decide +kernel
theorem dX10_forget_11 : decode cX10_forget 11 = .ok (.ireturn, 1) := by decide +kernel
noncomputable def F10_forget (mm : Mem) : Option (Int32 × Mem) :=
  some ((mm 0 26), (mset mm 0 26 (0 : Int32)))
set_option maxHeartbeats 4000000 in
set_option maxRecDepth 100000 in
theorem kX10_forget (l : Launch) (g : GG) (mc mm : Mem) (q : Int32 × Mem) (hF : F10_forget mm = some q) : KI l yX10_forget cX10_forget 2 .int 0 0 g [.ref (g.1 108)] mc mm q.1 (mc, q.2) := by
  intro sz
  refine x_start (Qc := fun z => QI g z q.1 (mc, q.2)) (by decide +kernel) (Nat.le_of_ble_eq_true rfl) ?_ sz
  intro p e s m args below meth c ls Z hr hlk hP hl
  have hx := Z.1.1
  have hb := Z.1.2.1
  have hown := Z.1.2.2.2.1
  have hts := Z.1.2.2.2.2
  have hS : va_S (AA g s.heap.size) s.heap s.heap [] := va_S.rf
  have hl : lv_has ls 2 [(0, .ref (g.1 108))] := hl
  unfold F10_forget at hF
  refine lv_aload_n hx hb dX10_forget_0 rfl (lv_at hl 0 rfl) ?_
  refine gf10_26 Z hP wd_32_13 dX10_forget_1 ?_
  refine lv_istore_n (lv' := [(1, .int (mm 0 26)), (0, .ref (g.1 108))]) hx hb dX10_forget_4 rfl hl (Nat.le_of_ble_eq_true rfl) rfl (fun ls hl => ?_)
  refine lv_aload_n hx hb dX10_forget_5 rfl (lv_at hl 1 rfl) ?_
  refine lv_iconst (v := (0 : Int32)) hx hb dX10_forget_6 ic_0 ?_
  refine pf10_26 Z hP hS wd_32_13 dX10_forget_7 (fun H locs hP hS => ?_)
  refine lv_iload_n hx hb dX10_forget_10 rfl (lv_at hl 0 rfl) ?_
  exact ret_IWM Z hr hlk hP hS hF dX10_forget_11
theorem xX10_forget {p : Program} {l : Launch} {e : Env} {R : Room} {s : State} {m : MethodId} {args : Array Value} {below : List Frame} {meth : Method} {c : Code} {H : Heap} {locs : List Loc} {Q : State → Prop} {cc : ByteArray} {nL : Nat} {own : String} {g : GG} {pc index : Nat} {ls : Array Slot} {rest : List Value} {mc mm : Mem} (Z : ZZ p s m args c cc nL own g) (hP : va_P g.2.2.1 vwCl (wL g mc mm) H) (hS : va_S (AA g s.heap.size) s.heap H locs) {q : Int32 × Mem} (hq : F10_forget mm = some q) (hlk : Cond.methodLink own index yX10_forget ∈ wsL_law) (hsz : ls.size = nL) (hro : (rest.map fun v => v.category).sum ≤ 8) (hR : 0 + 1 ≤ R.frames ∧ 8 + (2 + 11) + 0 ≤ R.locals) (hdg : decode cc pc = .ok (.invokevirtual index, 3)) (kk : ∀ (H : Heap) (locs : List Loc), va_P g.2.2.1 vwCl (wL g mc q.2) H → va_S (AA g s.heap.size) s.heap H locs → W p l e R s m args below meth c H locs 0 0 Q (F0 m (pc + 3) ls (.int q.1 :: rest))) : W p l e R s m args below meth c H locs 0 0 Q (F0 m pc ls (.ref (g.1 108) :: rest)) :=
  x_VI Z hP hS (kX10_forget l g mc mm q hq) (mO) (ci := 10) (by decide) rfl rfl mf_X10_forget mv_X10_forget hlk rfl rfl hsz hro hR hdg kk
theorem dX10_isDrawn_0 : decode cX10_isDrawn 0 = .ok (.aload_n 0, 1) := by decide +kernel
theorem dX10_isDrawn_1 : decode cX10_isDrawn 1 = .ok (.invokevirtual 233, 3) := by decide +kernel
theorem dX10_isDrawn_4 : decode cX10_isDrawn 4 = .ok (.iconst 1, 1) := by decide +kernel
theorem dX10_isDrawn_5 : decode cX10_isDrawn 5 = .ok (.istore_n 1, 1) := by decide +kernel
theorem dX10_isDrawn_6 : decode cX10_isDrawn 6 = .ok (.iconst 0, 1) := by decide +kernel
theorem dX10_isDrawn_7 : decode cX10_isDrawn 7 = .ok (.istore_n 2, 1) := by decide +kernel
theorem dX10_isDrawn_8 : decode cX10_isDrawn 8 = .ok (.iload_n 2, 1) := by decide +kernel
theorem dX10_isDrawn_9 : decode cX10_isDrawn 9 = .ok (.aload_n 0, 1) := by decide +kernel
theorem dX10_isDrawn_10 : decode cX10_isDrawn 10 = .ok (.getfield 288, 3) := by decide +kernel
theorem dX10_isDrawn_13 : decode cX10_isDrawn 13 = .ok (.if_icmp .ge 69, 3) := by decide +kernel
theorem dX10_isDrawn_16 : decode cX10_isDrawn 16 = .ok (.aload_n 0, 1) := by decide +kernel
theorem dX10_isDrawn_17 : decode cX10_isDrawn 17 = .ok (.getfield 68, 3) := by decide +kernel
theorem dX10_isDrawn_20 : decode cX10_isDrawn 20 = .ok (.iconst 3, 1) := by decide +kernel
theorem dX10_isDrawn_21 : decode cX10_isDrawn 21 = .ok (.iload_n 2, 1) := by decide +kernel
theorem dX10_isDrawn_22 : decode cX10_isDrawn 22 = .ok (.imul, 1) := by decide +kernel
theorem dX10_isDrawn_23 : decode cX10_isDrawn 23 = .ok (.iconst 1, 1) := by decide +kernel
theorem dX10_isDrawn_24 : decode cX10_isDrawn 24 = .ok (.iadd, 1) := by decide +kernel
theorem dX10_isDrawn_25 : decode cX10_isDrawn 25 = .ok (.iaload, 1) := by decide +kernel
theorem dX10_isDrawn_26 : decode cX10_isDrawn 26 = .ok (.istore_n 3, 1) := by decide +kernel
theorem dX10_isDrawn_27 : decode cX10_isDrawn 27 = .ok (.iload_n 1, 1) := by decide +kernel
theorem dX10_isDrawn_28 : decode cX10_isDrawn 28 = .ok (.ifCond .eq 46, 3) := by decide +kernel
theorem dX10_isDrawn_31 : decode cX10_isDrawn 31 = .ok (.aload_n 0, 1) := by decide +kernel
theorem dX10_isDrawn_32 : decode cX10_isDrawn 32 = .ok (.iload_n 3, 1) := by decide +kernel
theorem dX10_isDrawn_33 : decode cX10_isDrawn 33 = .ok (.invokevirtual 166, 3) := by decide +kernel
theorem dX10_isDrawn_36 : decode cX10_isDrawn 36 = .ok (.ifCond .eq 38, 3) := by decide +kernel
theorem dX10_isDrawn_39 : decode cX10_isDrawn 39 = .ok (.aload_n 0, 1) := by decide +kernel
theorem dX10_isDrawn_40 : decode cX10_isDrawn 40 = .ok (.getfield 62, 3) := by decide +kernel
theorem dX10_isDrawn_43 : decode cX10_isDrawn 43 = .ok (.bipush 8, 2) := by decide +kernel
theorem dX10_isDrawn_45 : decode cX10_isDrawn 45 = .ok (.aload_n 0, 1) := by decide +kernel
theorem dX10_isDrawn_46 : decode cX10_isDrawn 46 = .ok (.getfield 68, 3) := by decide +kernel
theorem dX10_isDrawn_49 : decode cX10_isDrawn 49 = .ok (.iconst 3, 1) := by decide +kernel
theorem dX10_isDrawn_50 : decode cX10_isDrawn 50 = .ok (.iload_n 2, 1) := by decide +kernel
theorem dX10_isDrawn_51 : decode cX10_isDrawn 51 = .ok (.imul, 1) := by decide +kernel
theorem dX10_isDrawn_52 : decode cX10_isDrawn 52 = .ok (.iaload, 1) := by decide +kernel
theorem dX10_isDrawn_53 : decode cX10_isDrawn 53 = .ok (.imul, 1) := by decide +kernel
theorem dX10_isDrawn_54 : decode cX10_isDrawn 54 = .ok (.iload_n 3, 1) := by decide +kernel
theorem dX10_isDrawn_55 : decode cX10_isDrawn 55 = .ok (.iadd, 1) := by decide +kernel
theorem dX10_isDrawn_56 : decode cX10_isDrawn 56 = .ok (.iaload, 1) := by decide +kernel
theorem dX10_isDrawn_57 : decode cX10_isDrawn 57 = .ok (.aload_n 0, 1) := by decide +kernel
theorem dX10_isDrawn_58 : decode cX10_isDrawn 58 = .ok (.getfield 68, 3) := by decide +kernel
theorem dX10_isDrawn_61 : decode cX10_isDrawn 61 = .ok (.iconst 3, 1) := by decide +kernel
theorem dX10_isDrawn_62 : decode cX10_isDrawn 62 = .ok (.iload_n 2, 1) := by decide +kernel
theorem dX10_isDrawn_63 : decode cX10_isDrawn 63 = .ok (.imul, 1) := by decide +kernel
theorem dX10_isDrawn_64 : decode cX10_isDrawn 64 = .ok (.iconst 2, 1) := by decide +kernel
theorem dX10_isDrawn_65 : decode cX10_isDrawn 65 = .ok (.iadd, 1) := by decide +kernel
theorem dX10_isDrawn_66 : decode cX10_isDrawn 66 = .ok (.iaload, 1) := by decide +kernel
theorem dX10_isDrawn_67 : decode cX10_isDrawn 67 = .ok (.if_icmp .ne 7, 3) := by decide +kernel
theorem dX10_isDrawn_70 : decode cX10_isDrawn 70 = .ok (.iconst 1, 1) := by decide +kernel
theorem dX10_isDrawn_71 : decode cX10_isDrawn 71 = .ok (.goto 4, 3) := by decide +kernel
theorem dX10_isDrawn_74 : decode cX10_isDrawn 74 = .ok (.iconst 0, 1) := by decide +kernel
theorem dX10_isDrawn_75 : decode cX10_isDrawn 75 = .ok (.istore_n 1, 1) := by decide +kernel
theorem dX10_isDrawn_76 : decode cX10_isDrawn 76 = .ok (.iinc 2 1, 3) := by decide +kernel
theorem dX10_isDrawn_79 : decode cX10_isDrawn 79 = .ok (.goto (-71), 3) := by decide +kernel
theorem dX10_isDrawn_82 : decode cX10_isDrawn 82 = .ok (.iload_n 1, 1) := by decide +kernel
theorem dX10_isDrawn_83 : decode cX10_isDrawn 83 = .ok (.ireturn, 1) := by decide +kernel
noncomputable def F10_isDrawn_b75 (kh : Int32 → Int32 → Mem → Option (Int32 × Mem)) (a2 : Int32) (s0 : Int32) (M : Mem) : Option (Int32 × Mem) :=
  kh s0 (a2 + (1 : Int32)) M
noncomputable def F10_isDrawn_b74 (kh : Int32 → Int32 → Mem → Option (Int32 × Mem)) (a2 : Int32) (M : Mem) : Option (Int32 × Mem) :=
  (F10_isDrawn_b75 kh) a2 (0 : Int32) M
noncomputable def F10_isDrawn_p8 (kh : Int32 → Int32 → Mem → Option (Int32 × Mem)) (a1 : Int32) (a2 : Int32) (M : Mem) : Option (Int32 × Mem) :=
  (if (M 0 26) ≤ a2 then (bz a1 (some (a1, M))) else (ck (((3 : Int32) * a2) + (1 : Int32)) 24 (if a1 = (0 : Int32) then (F10_isDrawn_b74 kh) a2 M else ((F10_isSaying (M 20 (((3 : Int32) * a2) + (1 : Int32)).toNatClampNeg) M).bind (fun q8 => (if q8 = (0 : Int32) then (F10_isDrawn_b74 kh) a2 M else (ck ((3 : Int32) * a2) 24 (ck (((8 : Int32) * (M 20 ((3 : Int32) * a2).toNatClampNeg)) + (M 20 (((3 : Int32) * a2) + (1 : Int32)).toNatClampNeg)) 320 (ck (((3 : Int32) * a2) + (2 : Int32)) 24 (if (M 18 (((8 : Int32) * (M 20 ((3 : Int32) * a2).toNatClampNeg)) + (M 20 (((3 : Int32) * a2) + (1 : Int32)).toNatClampNeg)).toNatClampNeg) = (M 20 (((3 : Int32) * a2) + (2 : Int32)).toNatClampNeg) then (F10_isDrawn_b75 kh) a2 (1 : Int32) M else (F10_isDrawn_b74 kh) a2 M))))))))))
noncomputable def F10_isDrawn_h8 : Nat → Int32 → Int32 → Mem → Option (Int32 × Mem)
  | 0, _, _, _ => none
  | n + 1, a1, a2, M => F10_isDrawn_p8 (F10_isDrawn_h8 n) a1 a2 M
noncomputable def F10_isDrawn (mm : Mem) : Option (Int32 × Mem) :=
  ((F10_lives mm).bind (fun q12 => ((F10_isDrawn_h8 FU) (1 : Int32) (0 : Int32) q12)))
set_option maxHeartbeats 4000000 in
set_option maxRecDepth 100000 in
theorem kX10_isDrawn (l : Launch) (g : GG) (mc mm : Mem) (q : Int32 × Mem) (hF : F10_isDrawn mm = some q) : KI l yX10_isDrawn cX10_isDrawn 4 .boolean 6 139 g [.ref (g.1 108)] mc mm q.1 (mc, q.2) := by
  intro sz
  refine x_start (Qc := fun z => QI g z q.1 (mc, q.2)) (by decide +kernel) (Nat.le_of_ble_eq_true rfl) ?_ sz
  intro p e s m args below meth c ls Z hr hlk hP hl
  have hx := Z.1.1
  have hb := Z.1.2.1
  have hown := Z.1.2.2.2.1
  have hts := Z.1.2.2.2.2
  have hS : va_S (AA g s.heap.size) s.heap s.heap [] := va_S.rf
  have hl : lv_has ls 4 [(0, .ref (g.1 108))] := hl
  unfold F10_isDrawn at hF
  have hL8 : ∀ n : Nat, ∀ (a1 : Int32) (a2 : Int32) (M : Mem), F10_isDrawn_h8 n a1 a2 M = some q → ∀ (H : Heap) (locs : List Loc) (ls : Array Slot), lv_has ls 4 [(0, .ref (g.1 108)), (1, .int a1), (2, .int a2)] → va_P g.2.2.1 vwCl (wL g mc M) H → va_S (AA g s.heap.size) s.heap H locs → W p l e { frames := 6, cells := 0, slots := 0, locals := 139 } s m args below meth c H locs 0 0 (MQ below (QI g s.heap.size q.1 (mc, q.2)) args s 0 0 (AA g s.heap.size)) (F0 m 8 ls []) := by
    intro n
    induction n with
    | zero => intro a1 a2 M hF H locs ls hl hP hS; exact absurd hF (fun z => nomatch (show (none : Option _) = some q from z))
    | succ n ih =>
      generalize hkh : F10_isDrawn_h8 n = kh at ih
      have hb75 : ∀ (a2 : Int32) (s0 : Int32) (M : Mem), F10_isDrawn_b75 kh a2 s0 M = some q → ∀ (H : Heap) (locs : List Loc) (ls : Array Slot), lv_has ls 4 [(0, .ref (g.1 108)), (2, .int a2)] → va_P g.2.2.1 vwCl (wL g mc M) H → va_S (AA g s.heap.size) s.heap H locs → W p l e { frames := 6, cells := 0, slots := 0, locals := 139 } s m args below meth c H locs 0 0 (MQ below (QI g s.heap.size q.1 (mc, q.2)) args s 0 0 (AA g s.heap.size)) (F0 m 75 ls [.int s0]) := by
        intro a2 s0 M hF H locs ls hl hP hS
        unfold F10_isDrawn_b75 at hF
        refine lv_istore_n (lv' := [(1, .int s0), (0, .ref (g.1 108)), (2, .int a2)]) hx hb dX10_isDrawn_75 rfl hl (Nat.le_of_ble_eq_true rfl) rfl (fun ls hl => ?_)
        refine lv_iinc (lv' := [(2, .int (a2 + (1 : Int32))), (1, .int s0), (0, .ref (g.1 108))]) (v := (a2 + (1 : Int32))) hx hb dX10_isDrawn_76 hl (k := 2) rfl (io_1 _) (Nat.le_of_ble_eq_true rfl) rfl (fun ls hl => ?_)
        refine lv_goto (tgt := 8) hx hb dX10_isDrawn_79 rfl ?_
        exact ih _ _ _ hF _ _ _ (lv_sub hl [2, 1, 0] rfl) hP hS
      have hb74 : ∀ (a2 : Int32) (M : Mem), F10_isDrawn_b74 kh a2 M = some q → ∀ (H : Heap) (locs : List Loc) (ls : Array Slot), lv_has ls 4 [(0, .ref (g.1 108)), (2, .int a2)] → va_P g.2.2.1 vwCl (wL g mc M) H → va_S (AA g s.heap.size) s.heap H locs → W p l e { frames := 6, cells := 0, slots := 0, locals := 139 } s m args below meth c H locs 0 0 (MQ below (QI g s.heap.size q.1 (mc, q.2)) args s 0 0 (AA g s.heap.size)) (F0 m 74 ls []) := by
        intro a2 M hF H locs ls hl hP hS
        unfold F10_isDrawn_b74 at hF
        refine lv_iconst (v := (0 : Int32)) hx hb dX10_isDrawn_74 ic_0 ?_
        exact hb75 _ _ _ hF _ _ _ (lv_sub hl [0, 1] rfl) hP hS
      intro a1 a2 M hF H locs ls hl hP hS
      have hF : F10_isDrawn_p8 (F10_isDrawn_h8 n) a1 a2 M = some q := hF
      rw [hkh] at hF
      unfold F10_isDrawn_p8 at hF
      refine lv_iload_n hx hb dX10_isDrawn_8 rfl (lv_at hl 2 rfl) ?_
      refine lv_aload_n hx hb dX10_isDrawn_9 rfl (lv_at hl 0 rfl) ?_
      refine gf10_26 Z hP wd_32_13 dX10_isDrawn_10 ?_
      refine lv_icmp_ge (tgt := 82) hx hb dX10_isDrawn_13 rfl (fun hc => ?_) (fun hc => ?_)
      · have hF := (if_pos hc).symm.trans hF
        refine lv_iload_n hx hb dX10_isDrawn_82 rfl (lv_at hl 1 rfl) ?_
        obtain ⟨hbz, hF⟩ := bz_ok hF
        exact ret_ZWM Z hr hlk hP hS hbz hF dX10_isDrawn_83
      · have hF := (if_neg hc).symm.trans hF
        refine lv_aload_n hx hb dX10_isDrawn_16 rfl (lv_at hl 0 rfl) ?_
        refine gf10_27 Z hP wd_6_23 dX10_isDrawn_17 ?_
        refine lv_iconst (v := (3 : Int32)) hx hb dX10_isDrawn_20 ic_3 ?_
        refine lv_iload_n hx hb dX10_isDrawn_21 rfl (lv_at hl 2 rfl) ?_
        refine lv_imul hx hb dX10_isDrawn_22 ?_
        refine lv_iconst (v := (1 : Int32)) hx hb dX10_isDrawn_23 ic_1 ?_
        refine lv_iadd hx hb dX10_isDrawn_24 ?_
        obtain ⟨hi7, hF⟩ := ck_ok hF
        refine rM_ld Z hP 24 20 (by decide +kernel) hi7 dX10_isDrawn_25 ?_
        refine lv_istore_n (lv' := [(3, .int (M 20 (((3 : Int32) * a2) + (1 : Int32)).toNatClampNeg)), (0, .ref (g.1 108)), (1, .int a1), (2, .int a2)]) hx hb dX10_isDrawn_26 rfl hl (Nat.le_of_ble_eq_true rfl) rfl (fun ls hl => ?_)
        refine lv_iload_n hx hb dX10_isDrawn_27 rfl (lv_at hl 2 rfl) ?_
        refine lv_if_eq (tgt := 74) hx hb dX10_isDrawn_28 rfl (fun hc => ?_) (fun hc => ?_)
        · have hF := (if_pos hc).symm.trans hF
          exact hb74 _ _ hF _ _ _ (lv_sub hl [1, 3] rfl) hP hS
        · have hF := (if_neg hc).symm.trans hF
          refine lv_aload_n hx hb dX10_isDrawn_31 rfl (lv_at hl 1 rfl) ?_
          refine lv_iload_n hx hb dX10_isDrawn_32 rfl (lv_at hl 0 rfl) ?_
          obtain ⟨q8, hq8, hF⟩ := bd_ok hF
          refine xX10_isSaying Z hP hS hq8 wd_17_3 hl.1 (Nat.le_of_ble_eq_true rfl) ⟨Nat.le_of_ble_eq_true rfl, Nat.le_of_ble_eq_true rfl⟩ dX10_isDrawn_33 (fun H locs hP hS => ?_)
          refine lv_if_eq (tgt := 74) hx hb dX10_isDrawn_36 rfl (fun hc => ?_) (fun hc => ?_)
          · have hF := (if_pos hc).symm.trans hF
            exact hb74 _ _ hF _ _ _ (lv_sub hl [1, 3] rfl) hP hS
          · have hF := (if_neg hc).symm.trans hF
            refine lv_aload_n hx hb dX10_isDrawn_39 rfl (lv_at hl 1 rfl) ?_
            refine gf10_24 Z hP wd_6_21 dX10_isDrawn_40 ?_
            refine lv_bipush (v := (8 : Int32)) hx hb dX10_isDrawn_43 bp_8 ?_
            refine lv_aload_n hx hb dX10_isDrawn_45 rfl (lv_at hl 1 rfl) ?_
            refine gf10_27 Z hP wd_6_23 dX10_isDrawn_46 ?_
            refine lv_iconst (v := (3 : Int32)) hx hb dX10_isDrawn_49 ic_3 ?_
            refine lv_iload_n hx hb dX10_isDrawn_50 rfl (lv_at hl 3 rfl) ?_
            refine lv_imul hx hb dX10_isDrawn_51 ?_
            obtain ⟨hi9, hF⟩ := ck_ok hF
            refine rM_ld Z hP 24 20 (by decide +kernel) hi9 dX10_isDrawn_52 ?_
            refine lv_imul hx hb dX10_isDrawn_53 ?_
            refine lv_iload_n hx hb dX10_isDrawn_54 rfl (lv_at hl 0 rfl) ?_
            refine lv_iadd hx hb dX10_isDrawn_55 ?_
            obtain ⟨hi10, hF⟩ := ck_ok hF
            refine rM_ld Z hP 320 18 (by decide +kernel) hi10 dX10_isDrawn_56 ?_
            refine lv_aload_n hx hb dX10_isDrawn_57 rfl (lv_at hl 1 rfl) ?_
            refine gf10_27 Z hP wd_6_23 dX10_isDrawn_58 ?_
            refine lv_iconst (v := (3 : Int32)) hx hb dX10_isDrawn_61 ic_3 ?_
            refine lv_iload_n hx hb dX10_isDrawn_62 rfl (lv_at hl 3 rfl) ?_
            refine lv_imul hx hb dX10_isDrawn_63 ?_
            refine lv_iconst (v := (2 : Int32)) hx hb dX10_isDrawn_64 ic_2 ?_
            refine lv_iadd hx hb dX10_isDrawn_65 ?_
            obtain ⟨hi11, hF⟩ := ck_ok hF
            refine rM_ld Z hP 24 20 (by decide +kernel) hi11 dX10_isDrawn_66 ?_
            refine lv_icmp_ne (tgt := 74) hx hb dX10_isDrawn_67 rfl (fun hc => ?_) (fun hc => ?_)
            · have hF := (if_neg hc).symm.trans hF
              exact hb74 _ _ hF _ _ _ (lv_sub hl [1, 3] rfl) hP hS
            · have hF := (if_pos hc).symm.trans hF
              refine lv_iconst (v := (1 : Int32)) hx hb dX10_isDrawn_70 ic_1 ?_
              refine lv_goto (tgt := 75) hx hb dX10_isDrawn_71 rfl ?_
              exact hb75 _ _ _ hF _ _ _ (lv_sub hl [1, 3] rfl) hP hS
  refine lv_aload_n hx hb dX10_isDrawn_0 rfl (lv_at hl 0 rfl) ?_
  obtain ⟨q12, hq12, hF⟩ := bd_ok hF
  refine xX10_lives Z hP hS hq12 wd_22_9 hl.1 (Nat.le_of_ble_eq_true rfl) ⟨Nat.le_of_ble_eq_true rfl, Nat.le_of_ble_eq_true rfl⟩ dX10_isDrawn_1 (fun H locs hP hS => ?_)
  refine lv_iconst (v := (1 : Int32)) hx hb dX10_isDrawn_4 ic_1 ?_
  refine lv_istore_n (lv' := [(1, .int (1 : Int32)), (0, .ref (g.1 108))]) hx hb dX10_isDrawn_5 rfl hl (Nat.le_of_ble_eq_true rfl) rfl (fun ls hl => ?_)
  refine lv_iconst (v := (0 : Int32)) hx hb dX10_isDrawn_6 ic_0 ?_
  refine lv_istore_n (lv' := [(2, .int (0 : Int32)), (1, .int (1 : Int32)), (0, .ref (g.1 108))]) hx hb dX10_isDrawn_7 rfl hl (Nat.le_of_ble_eq_true rfl) rfl (fun ls hl => ?_)
  exact (hL8 FU) _ _ _ hF _ _ _ (lv_sub hl [2, 1, 0] rfl) hP hS
theorem xX10_isDrawn {p : Program} {l : Launch} {e : Env} {R : Room} {s : State} {m : MethodId} {args : Array Value} {below : List Frame} {meth : Method} {c : Code} {H : Heap} {locs : List Loc} {Q : State → Prop} {cc : ByteArray} {nL : Nat} {own : String} {g : GG} {pc index : Nat} {ls : Array Slot} {rest : List Value} {mc mm : Mem} (Z : ZZ p s m args c cc nL own g) (hP : va_P g.2.2.1 vwCl (wL g mc mm) H) (hS : va_S (AA g s.heap.size) s.heap H locs) {q : Int32 × Mem} (hq : F10_isDrawn mm = some q) (hlk : Cond.methodLink own index yX10_isDrawn ∈ wsL_law) (hsz : ls.size = nL) (hro : (rest.map fun v => v.category).sum ≤ 8) (hR : 6 + 1 ≤ R.frames ∧ 8 + (4 + 11) + 139 ≤ R.locals) (hdg : decode cc pc = .ok (.invokevirtual index, 3)) (kk : ∀ (H : Heap) (locs : List Loc), va_P g.2.2.1 vwCl (wL g mc q.2) H → va_S (AA g s.heap.size) s.heap H locs → W p l e R s m args below meth c H locs 0 0 Q (F0 m (pc + 3) ls (.int q.1 :: rest))) : W p l e R s m args below meth c H locs 0 0 Q (F0 m pc ls (.ref (g.1 108) :: rest)) :=
  x_VI Z hP hS (kX10_isDrawn l g mc mm q hq) (mO) (ci := 10) (by decide) rfl rfl mf_X10_isDrawn mv_X10_isDrawn hlk rfl rfl hsz hro hR hdg kk
theorem dX10_neverNow_0 : decode cX10_neverNow 0 = .ok (.iconst 0, 1) := by decide +kernel
theorem dX10_neverNow_1 : decode cX10_neverNow 1 = .ok (.istore_n 1, 1) := by decide +kernel
theorem dX10_neverNow_2 : decode cX10_neverNow 2 = .ok (.iconst 0, 1) := by decide +kernel
theorem dX10_neverNow_3 : decode cX10_neverNow 3 = .ok (.istore_n 2, 1) := by decide +kernel
theorem dX10_neverNow_4 : decode cX10_neverNow 4 = .ok (.iload_n 2, 1) := by decide +kernel
theorem dX10_neverNow_5 : decode cX10_neverNow 5 = .ok (.aload_n 0, 1) := by decide +kernel
theorem dX10_neverNow_6 : decode cX10_neverNow 6 = .ok (.getfield 172, 3) := by decide +kernel
theorem dX10_neverNow_9 : decode cX10_neverNow 9 = .ok (.if_icmp .ge 33, 3) := by decide +kernel
theorem dX10_neverNow_12 : decode cX10_neverNow 12 = .ok (.aload_n 0, 1) := by decide +kernel
theorem dX10_neverNow_13 : decode cX10_neverNow 13 = .ok (.iconst 1, 1) := by decide +kernel
theorem dX10_neverNow_14 : decode cX10_neverNow 14 = .ok (.iload_n 2, 1) := by decide +kernel
theorem dX10_neverNow_15 : decode cX10_neverNow 15 = .ok (.ishl, 1) := by decide +kernel
theorem dX10_neverNow_16 : decode cX10_neverNow 16 = .ok (.putfield 187, 3) := by decide +kernel
theorem dX10_neverNow_19 : decode cX10_neverNow 19 = .ok (.iload_n 1, 1) := by decide +kernel
theorem dX10_neverNow_20 : decode cX10_neverNow 20 = .ok (.aload_n 0, 1) := by decide +kernel
theorem dX10_neverNow_21 : decode cX10_neverNow 21 = .ok (.invokevirtual 291, 3) := by decide +kernel
theorem dX10_neverNow_24 : decode cX10_neverNow 24 = .ok (.ifCond .eq 9, 3) := by decide +kernel
theorem dX10_neverNow_27 : decode cX10_neverNow 27 = .ok (.iconst 1, 1) := by decide +kernel
theorem dX10_neverNow_28 : decode cX10_neverNow 28 = .ok (.iload_n 2, 1) := by decide +kernel
theorem dX10_neverNow_29 : decode cX10_neverNow 29 = .ok (.ishl, 1) := by decide +kernel
theorem dX10_neverNow_30 : decode cX10_neverNow 30 = .ok (.goto 4, 3) := by decide +kernel
theorem dX10_neverNow_33 : decode cX10_neverNow 33 = .ok (.iconst 0, 1) := by decide +kernel
theorem dX10_neverNow_34 : decode cX10_neverNow 34 = .ok (.ior, 1) := by decide +kernel
theorem dX10_neverNow_35 : decode cX10_neverNow 35 = .ok (.istore_n 1, 1) := by decide +kernel
theorem dX10_neverNow_36 : decode cX10_neverNow 36 = .ok (.iinc 2 1, 3) := by decide +kernel
theorem dX10_neverNow_39 : decode cX10_neverNow 39 = .ok (.goto (-35), 3) := by decide +kernel
theorem dX10_neverNow_42 : decode cX10_neverNow 42 = .ok (.aload_n 0, 1) := by decide +kernel
theorem dX10_neverNow_43 : decode cX10_neverNow 43 = .ok (.iconst 0, 1) := by decide +kernel
theorem dX10_neverNow_44 : decode cX10_neverNow 44 = .ok (.putfield 187, 3) := by decide +kernel
theorem dX10_neverNow_47 : decode cX10_neverNow 47 = .ok (.iload_n 1, 1) := by decide +kernel
theorem dX10_neverNow_48 : decode cX10_neverNow 48 = .ok (.ireturn, 1) := by decide +kernel
noncomputable def F10_neverNow_b42 (a1 : Int32) (M : Mem) : Option (Int32 × Mem) :=
  some (a1, (mset M 0 13 (0 : Int32)))
noncomputable def F10_neverNow_b34 (kh : Int32 → Int32 → Mem → Option (Int32 × Mem)) (kx42 : Int32 → Mem → Option (Int32 × Mem)) (a2 : Int32) (s0 : Int32) (s1 : Int32) (M : Mem) : Option (Int32 × Mem) :=
  kh (s0 ||| s1) (a2 + (1 : Int32)) M
noncomputable def F10_neverNow_p4 (kh : Int32 → Int32 → Mem → Option (Int32 × Mem)) (kx42 : Int32 → Mem → Option (Int32 × Mem)) (a1 : Int32) (a2 : Int32) (M : Mem) : Option (Int32 × Mem) :=
  (if (M 0 11) ≤ a2 then kx42 a1 M else (lt (mset M 0 13 ((1 : Int32) <<< (a2 &&& (31 : Int32)))) (fun M3 => ((F10_isDrawn M3).bind (fun q4 => (if q4.1 = (0 : Int32) then (F10_neverNow_b34 kh kx42) a2 a1 (0 : Int32) q4.2 else (F10_neverNow_b34 kh kx42) a2 a1 ((1 : Int32) <<< (a2 &&& (31 : Int32))) q4.2))))))
noncomputable def F10_neverNow_h4 (kx42 : Int32 → Mem → Option (Int32 × Mem)) : Nat → Int32 → Int32 → Mem → Option (Int32 × Mem)
  | 0, _, _, _ => none
  | n + 1, a1, a2, M => F10_neverNow_p4 (F10_neverNow_h4 kx42 n) kx42 a1 a2 M
noncomputable def F10_neverNow (mm : Mem) : Option (Int32 × Mem) :=
  (F10_neverNow_h4 F10_neverNow_b42 FU) (0 : Int32) (0 : Int32) mm
set_option maxHeartbeats 4000000 in
set_option maxRecDepth 100000 in
theorem kX10_neverNow (l : Launch) (g : GG) (mc mm : Mem) (q : Int32 × Mem) (hF : F10_neverNow mm = some q) : KI l yX10_neverNow cX10_neverNow 3 .int 7 162 g [.ref (g.1 108)] mc mm q.1 (mc, q.2) := by
  intro sz
  refine x_start (Qc := fun z => QI g z q.1 (mc, q.2)) (by decide +kernel) (Nat.le_of_ble_eq_true rfl) ?_ sz
  intro p e s m args below meth c ls Z hr hlk hP hl
  have hx := Z.1.1
  have hb := Z.1.2.1
  have hown := Z.1.2.2.2.1
  have hts := Z.1.2.2.2.2
  have hS : va_S (AA g s.heap.size) s.heap s.heap [] := va_S.rf
  have hl : lv_has ls 3 [(0, .ref (g.1 108))] := hl
  unfold F10_neverNow at hF
  have hb42 : ∀ (a1 : Int32) (M : Mem), F10_neverNow_b42 a1 M = some q → ∀ (H : Heap) (locs : List Loc) (ls : Array Slot), lv_has ls 3 [(0, .ref (g.1 108)), (1, .int a1)] → va_P g.2.2.1 vwCl (wL g mc M) H → va_S (AA g s.heap.size) s.heap H locs → W p l e { frames := 7, cells := 0, slots := 0, locals := 162 } s m args below meth c H locs 0 0 (MQ below (QI g s.heap.size q.1 (mc, q.2)) args s 0 0 (AA g s.heap.size)) (F0 m 42 ls []) := by
    intro a1 M hF H locs ls hl hP hS
    unfold F10_neverNow_b42 at hF
    refine lv_aload_n hx hb dX10_neverNow_42 rfl (lv_at hl 0 rfl) ?_
    refine lv_iconst (v := (0 : Int32)) hx hb dX10_neverNow_43 ic_0 ?_
    refine pf10_13 Z hP hS wd_23_1 dX10_neverNow_44 (fun H locs hP hS => ?_)
    refine lv_iload_n hx hb dX10_neverNow_47 rfl (lv_at hl 1 rfl) ?_
    exact ret_IWM Z hr hlk hP hS hF dX10_neverNow_48
  have hL4 : ∀ (kx42 : Int32 → Mem → Option (Int32 × Mem)), (∀ (a1 : Int32) (M : Mem), kx42 a1 M = some q → ∀ (H : Heap) (locs : List Loc) (ls : Array Slot), lv_has ls 3 [(0, .ref (g.1 108)), (1, .int a1)] → va_P g.2.2.1 vwCl (wL g mc M) H → va_S (AA g s.heap.size) s.heap H locs → W p l e { frames := 7, cells := 0, slots := 0, locals := 162 } s m args below meth c H locs 0 0 (MQ below (QI g s.heap.size q.1 (mc, q.2)) args s 0 0 (AA g s.heap.size)) (F0 m 42 ls [])) → ∀ n : Nat, ∀ (a1 : Int32) (a2 : Int32) (M : Mem), F10_neverNow_h4 kx42 n a1 a2 M = some q → ∀ (H : Heap) (locs : List Loc) (ls : Array Slot), lv_has ls 3 [(0, .ref (g.1 108)), (1, .int a1), (2, .int a2)] → va_P g.2.2.1 vwCl (wL g mc M) H → va_S (AA g s.heap.size) s.heap H locs → W p l e { frames := 7, cells := 0, slots := 0, locals := 162 } s m args below meth c H locs 0 0 (MQ below (QI g s.heap.size q.1 (mc, q.2)) args s 0 0 (AA g s.heap.size)) (F0 m 4 ls []) := by
    intro kx42 hx42 n
    induction n with
    | zero => intro a1 a2 M hF H locs ls hl hP hS; exact absurd hF (fun z => nomatch (show (none : Option _) = some q from z))
    | succ n ih =>
      generalize hkh : F10_neverNow_h4 kx42 n = kh at ih
      have hb34 : ∀ (a2 : Int32) (s0 : Int32) (s1 : Int32) (M : Mem), F10_neverNow_b34 kh kx42 a2 s0 s1 M = some q → ∀ (H : Heap) (locs : List Loc) (ls : Array Slot), lv_has ls 3 [(0, .ref (g.1 108)), (2, .int a2)] → va_P g.2.2.1 vwCl (wL g mc M) H → va_S (AA g s.heap.size) s.heap H locs → W p l e { frames := 7, cells := 0, slots := 0, locals := 162 } s m args below meth c H locs 0 0 (MQ below (QI g s.heap.size q.1 (mc, q.2)) args s 0 0 (AA g s.heap.size)) (F0 m 34 ls [.int s1, .int s0]) := by
        intro a2 s0 s1 M hF H locs ls hl hP hS
        unfold F10_neverNow_b34 at hF
        refine lv_ior hx hb dX10_neverNow_34 ?_
        refine lv_istore_n (lv' := [(1, .int (s0 ||| s1)), (0, .ref (g.1 108)), (2, .int a2)]) hx hb dX10_neverNow_35 rfl hl (Nat.le_of_ble_eq_true rfl) rfl (fun ls hl => ?_)
        refine lv_iinc (lv' := [(2, .int (a2 + (1 : Int32))), (1, .int (s0 ||| s1)), (0, .ref (g.1 108))]) (v := (a2 + (1 : Int32))) hx hb dX10_neverNow_36 hl (k := 2) rfl (io_1 _) (Nat.le_of_ble_eq_true rfl) rfl (fun ls hl => ?_)
        refine lv_goto (tgt := 4) hx hb dX10_neverNow_39 rfl ?_
        exact ih _ _ _ hF _ _ _ (lv_sub hl [2, 1, 0] rfl) hP hS
      intro a1 a2 M hF H locs ls hl hP hS
      have hF : F10_neverNow_p4 (F10_neverNow_h4 kx42 n) kx42 a1 a2 M = some q := hF
      rw [hkh] at hF
      unfold F10_neverNow_p4 at hF
      refine lv_iload_n hx hb dX10_neverNow_4 rfl (lv_at hl 2 rfl) ?_
      refine lv_aload_n hx hb dX10_neverNow_5 rfl (lv_at hl 0 rfl) ?_
      refine gf10_11 Z hP wd_18_4 dX10_neverNow_6 ?_
      refine lv_icmp_ge (tgt := 42) hx hb dX10_neverNow_9 rfl (fun hc => ?_) (fun hc => ?_)
      · have hF := (if_pos hc).symm.trans hF
        exact hx42 _ _ hF _ _ _ (lv_sub hl [0, 1] rfl) hP hS
      · have hF := (if_neg hc).symm.trans hF
        refine lv_aload_n hx hb dX10_neverNow_12 rfl (lv_at hl 0 rfl) ?_
        refine lv_iconst (v := (1 : Int32)) hx hb dX10_neverNow_13 ic_1 ?_
        refine lv_iload_n hx hb dX10_neverNow_14 rfl (lv_at hl 2 rfl) ?_
        refine lv_ishl hx hb dX10_neverNow_15 ?_
        refine pf10_13 Z hP hS wd_23_1 dX10_neverNow_16 (fun H locs hP hS => ?_)
        refine lv_iload_n hx hb dX10_neverNow_19 rfl (lv_at hl 1 rfl) ?_
        refine lv_aload_n hx hb dX10_neverNow_20 rfl (lv_at hl 0 rfl) ?_
        obtain ⟨M3, eM3, hF⟩ := lt_ok hF
        have hP : va_P g.2.2.1 vwCl (wL g mc M3) H := by rw [eM3]; exact hP
        obtain ⟨q4, hq4, hF⟩ := bd_ok hF
        refine xX10_isDrawn Z hP hS hq4 wd_33_14 hl.1 (Nat.le_of_ble_eq_true rfl) ⟨Nat.le_of_ble_eq_true rfl, Nat.le_of_ble_eq_true rfl⟩ dX10_neverNow_21 (fun H locs hP hS => ?_)
        refine lv_if_eq (tgt := 33) hx hb dX10_neverNow_24 rfl (fun hc => ?_) (fun hc => ?_)
        · have hF := (if_pos hc).symm.trans hF
          refine lv_iconst (v := (0 : Int32)) hx hb dX10_neverNow_33 ic_0 ?_
          exact hb34 _ _ _ _ hF _ _ _ (lv_sub hl [0, 2] rfl) hP hS
        · have hF := (if_neg hc).symm.trans hF
          refine lv_iconst (v := (1 : Int32)) hx hb dX10_neverNow_27 ic_1 ?_
          refine lv_iload_n hx hb dX10_neverNow_28 rfl (lv_at hl 2 rfl) ?_
          refine lv_ishl hx hb dX10_neverNow_29 ?_
          refine lv_goto (tgt := 34) hx hb dX10_neverNow_30 rfl ?_
          exact hb34 _ _ _ _ hF _ _ _ (lv_sub hl [0, 2] rfl) hP hS
  refine lv_iconst (v := (0 : Int32)) hx hb dX10_neverNow_0 ic_0 ?_
  refine lv_istore_n (lv' := [(1, .int (0 : Int32)), (0, .ref (g.1 108))]) hx hb dX10_neverNow_1 rfl hl (Nat.le_of_ble_eq_true rfl) rfl (fun ls hl => ?_)
  refine lv_iconst (v := (0 : Int32)) hx hb dX10_neverNow_2 ic_0 ?_
  refine lv_istore_n (lv' := [(2, .int (0 : Int32)), (1, .int (0 : Int32)), (0, .ref (g.1 108))]) hx hb dX10_neverNow_3 rfl hl (Nat.le_of_ble_eq_true rfl) rfl (fun ls hl => ?_)
  exact (hL4 _ hb42 FU) _ _ _ hF _ _ _ (lv_sub hl [2, 1, 0] rfl) hP hS
theorem xX10_neverNow {p : Program} {l : Launch} {e : Env} {R : Room} {s : State} {m : MethodId} {args : Array Value} {below : List Frame} {meth : Method} {c : Code} {H : Heap} {locs : List Loc} {Q : State → Prop} {cc : ByteArray} {nL : Nat} {own : String} {g : GG} {pc index : Nat} {ls : Array Slot} {rest : List Value} {mc mm : Mem} (Z : ZZ p s m args c cc nL own g) (hP : va_P g.2.2.1 vwCl (wL g mc mm) H) (hS : va_S (AA g s.heap.size) s.heap H locs) {q : Int32 × Mem} (hq : F10_neverNow mm = some q) (hlk : Cond.methodLink own index yX10_neverNow ∈ wsL_law) (hsz : ls.size = nL) (hro : (rest.map fun v => v.category).sum ≤ 8) (hR : 7 + 1 ≤ R.frames ∧ 8 + (3 + 11) + 162 ≤ R.locals) (hdg : decode cc pc = .ok (.invokevirtual index, 3)) (kk : ∀ (H : Heap) (locs : List Loc), va_P g.2.2.1 vwCl (wL g mc q.2) H → va_S (AA g s.heap.size) s.heap H locs → W p l e R s m args below meth c H locs 0 0 Q (F0 m (pc + 3) ls (.int q.1 :: rest))) : W p l e R s m args below meth c H locs 0 0 Q (F0 m pc ls (.ref (g.1 108) :: rest)) :=
  x_VI Z hP hS (kX10_neverNow l g mc mm q hq) (mO) (ci := 10) (by decide) rfl rfl mf_X10_neverNow mv_X10_neverNow hlk rfl rfl hsz hro hR hdg kk
theorem dX10_never_0 : decode cX10_never 0 = .ok (.aload_n 0, 1) := by decide +kernel
theorem dX10_never_1 : decode cX10_never 1 = .ok (.invokevirtual 236, 3) := by decide +kernel
theorem dX10_never_4 : decode cX10_never 4 = .ok (.aload_n 0, 1) := by decide +kernel
theorem dX10_never_5 : decode cX10_never 5 = .ok (.invokevirtual 295, 3) := by decide +kernel
theorem dX10_never_8 : decode cX10_never 8 = .ok (.ireturn, 1) := by decide +kernel
noncomputable def F10_never (mm : Mem) : Option (Int32 × Mem) :=
  ((F10_find mm).bind (fun q3 => ((F10_neverNow q3).bind (fun q4 => (some (q4.1, q4.2))))))
set_option maxHeartbeats 4000000 in
set_option maxRecDepth 100000 in
theorem kX10_never (l : Launch) (g : GG) (mc mm : Mem) (q : Int32 × Mem) (hF : F10_never mm = some q) : KI l yX10_never cX10_never 1 .int 8 184 g [.ref (g.1 108)] mc mm q.1 (mc, q.2) := by
  intro sz
  refine x_start (Qc := fun z => QI g z q.1 (mc, q.2)) (by decide +kernel) (Nat.le_of_ble_eq_true rfl) ?_ sz
  intro p e s m args below meth c ls Z hr hlk hP hl
  have hx := Z.1.1
  have hb := Z.1.2.1
  have hown := Z.1.2.2.2.1
  have hts := Z.1.2.2.2.2
  have hS : va_S (AA g s.heap.size) s.heap s.heap [] := va_S.rf
  have hl : lv_has ls 1 [(0, .ref (g.1 108))] := hl
  unfold F10_never at hF
  refine lv_aload_n hx hb dX10_never_0 rfl (lv_at hl 0 rfl) ?_
  obtain ⟨q3, hq3, hF⟩ := bd_ok hF
  refine xX10_find Z hP hS hq3 wd_22_5 hl.1 (Nat.le_of_ble_eq_true rfl) ⟨Nat.le_of_ble_eq_true rfl, Nat.le_of_ble_eq_true rfl⟩ dX10_never_1 (fun H locs hP hS => ?_)
  refine lv_aload_n hx hb dX10_never_4 rfl (lv_at hl 0 rfl) ?_
  obtain ⟨q4, hq4, hF⟩ := bd_ok hF
  refine xX10_neverNow Z hP hS hq4 wd_33_10 hl.1 (Nat.le_of_ble_eq_true rfl) ⟨Nat.le_of_ble_eq_true rfl, Nat.le_of_ble_eq_true rfl⟩ dX10_never_5 (fun H locs hP hS => ?_)
  exact ret_IWM Z hr hlk hP hS hF dX10_never_8
theorem xX10_never {p : Program} {l : Launch} {e : Env} {R : Room} {s : State} {m : MethodId} {args : Array Value} {below : List Frame} {meth : Method} {c : Code} {H : Heap} {locs : List Loc} {Q : State → Prop} {cc : ByteArray} {nL : Nat} {own : String} {g : GG} {pc index : Nat} {ls : Array Slot} {rest : List Value} {mc mm : Mem} (Z : ZZ p s m args c cc nL own g) (hP : va_P g.2.2.1 vwCl (wL g mc mm) H) (hS : va_S (AA g s.heap.size) s.heap H locs) {q : Int32 × Mem} (hq : F10_never mm = some q) (hlk : Cond.methodLink own index yX10_never ∈ wsL_law) (hsz : ls.size = nL) (hro : (rest.map fun v => v.category).sum ≤ 8) (hR : 8 + 1 ≤ R.frames ∧ 8 + (1 + 11) + 184 ≤ R.locals) (hdg : decode cc pc = .ok (.invokevirtual index, 3)) (kk : ∀ (H : Heap) (locs : List Loc), va_P g.2.2.1 vwCl (wL g mc q.2) H → va_S (AA g s.heap.size) s.heap H locs → W p l e R s m args below meth c H locs 0 0 Q (F0 m (pc + 3) ls (.int q.1 :: rest))) : W p l e R s m args below meth c H locs 0 0 Q (F0 m pc ls (.ref (g.1 108) :: rest)) :=
  x_VI Z hP hS (kX10_never l g mc mm q hq) (mO) (ci := 10) (by decide) rfl rfl mf_X10_never mv_X10_never hlk rfl rfl hsz hro hR hdg kk
theorem dX10_stonesOf_0 : decode cX10_stonesOf 0 = .ok (.aload_n 0, 1) := by decide +kernel
theorem dX10_stonesOf_1 : decode cX10_stonesOf 1 = .ok (.getfield 28, 3) := by decide +kernel
theorem dX10_stonesOf_4 : decode cX10_stonesOf 4 = .ok (.iconst 2, 1) := by decide +kernel
theorem dX10_stonesOf_5 : decode cX10_stonesOf 5 = .ok (.iload_n 1, 1) := by decide +kernel
theorem dX10_stonesOf_6 : decode cX10_stonesOf 6 = .ok (.imul, 1) := by decide +kernel
theorem dX10_stonesOf_7 : decode cX10_stonesOf 7 = .ok (.iaload, 1) := by decide +kernel
theorem dX10_stonesOf_8 : decode cX10_stonesOf 8 = .ok (.istore_n 2, 1) := by decide +kernel
theorem dX10_stonesOf_9 : decode cX10_stonesOf 9 = .ok (.iconst 0, 1) := by decide +kernel
theorem dX10_stonesOf_10 : decode cX10_stonesOf 10 = .ok (.istore_n 3, 1) := by decide +kernel
theorem dX10_stonesOf_11 : decode cX10_stonesOf 11 = .ok (.iconst 0, 1) := by decide +kernel
theorem dX10_stonesOf_12 : decode cX10_stonesOf 12 = .ok (.istore 4, 2) := by decide +kernel
theorem dX10_stonesOf_14 : decode cX10_stonesOf 14 = .ok (.iload 4, 2) := by decide +kernel
theorem dX10_stonesOf_16 : decode cX10_stonesOf 16 = .ok (.iconst 3, 1) := by decide +kernel
theorem dX10_stonesOf_17 : decode cX10_stonesOf 17 = .ok (.if_icmp .ge 37, 3) := by decide +kernel
theorem dX10_stonesOf_20 : decode cX10_stonesOf 20 = .ok (.aload_n 0, 1) := by decide +kernel
theorem dX10_stonesOf_21 : decode cX10_stonesOf 21 = .ok (.getfield 28, 3) := by decide +kernel
theorem dX10_stonesOf_24 : decode cX10_stonesOf 24 = .ok (.iconst 2, 1) := by decide +kernel
theorem dX10_stonesOf_25 : decode cX10_stonesOf 25 = .ok (.iload_n 1, 1) := by decide +kernel
theorem dX10_stonesOf_26 : decode cX10_stonesOf 26 = .ok (.imul, 1) := by decide +kernel
theorem dX10_stonesOf_27 : decode cX10_stonesOf 27 = .ok (.iload 4, 2) := by decide +kernel
theorem dX10_stonesOf_29 : decode cX10_stonesOf 29 = .ok (.iastore, 1) := by decide +kernel
theorem dX10_stonesOf_30 : decode cX10_stonesOf 30 = .ok (.iload_n 3, 1) := by decide +kernel
theorem dX10_stonesOf_31 : decode cX10_stonesOf 31 = .ok (.aload_n 0, 1) := by decide +kernel
theorem dX10_stonesOf_32 : decode cX10_stonesOf 32 = .ok (.invokevirtual 291, 3) := by decide +kernel
theorem dX10_stonesOf_35 : decode cX10_stonesOf 35 = .ok (.ifCond .eq 10, 3) := by decide +kernel
theorem dX10_stonesOf_38 : decode cX10_stonesOf 38 = .ok (.iconst 1, 1) := by decide +kernel
theorem dX10_stonesOf_39 : decode cX10_stonesOf 39 = .ok (.iload 4, 2) := by decide +kernel
theorem dX10_stonesOf_41 : decode cX10_stonesOf 41 = .ok (.ishl, 1) := by decide +kernel
theorem dX10_stonesOf_42 : decode cX10_stonesOf 42 = .ok (.goto 4, 3) := by decide +kernel
theorem dX10_stonesOf_45 : decode cX10_stonesOf 45 = .ok (.iconst 0, 1) := by decide +kernel
theorem dX10_stonesOf_46 : decode cX10_stonesOf 46 = .ok (.ior, 1) := by decide +kernel
theorem dX10_stonesOf_47 : decode cX10_stonesOf 47 = .ok (.istore_n 3, 1) := by decide +kernel
theorem dX10_stonesOf_48 : decode cX10_stonesOf 48 = .ok (.iinc 4 1, 3) := by decide +kernel
theorem dX10_stonesOf_51 : decode cX10_stonesOf 51 = .ok (.goto (-37), 3) := by decide +kernel
theorem dX10_stonesOf_54 : decode cX10_stonesOf 54 = .ok (.aload_n 0, 1) := by decide +kernel
theorem dX10_stonesOf_55 : decode cX10_stonesOf 55 = .ok (.getfield 28, 3) := by decide +kernel
theorem dX10_stonesOf_58 : decode cX10_stonesOf 58 = .ok (.iconst 2, 1) := by decide +kernel
theorem dX10_stonesOf_59 : decode cX10_stonesOf 59 = .ok (.iload_n 1, 1) := by decide +kernel
theorem dX10_stonesOf_60 : decode cX10_stonesOf 60 = .ok (.imul, 1) := by decide +kernel
theorem dX10_stonesOf_61 : decode cX10_stonesOf 61 = .ok (.iload_n 2, 1) := by decide +kernel
theorem dX10_stonesOf_62 : decode cX10_stonesOf 62 = .ok (.iastore, 1) := by decide +kernel
theorem dX10_stonesOf_63 : decode cX10_stonesOf 63 = .ok (.iload_n 3, 1) := by decide +kernel
theorem dX10_stonesOf_64 : decode cX10_stonesOf 64 = .ok (.ireturn, 1) := by decide +kernel
noncomputable def F10_stonesOf_b54 (v1 : Int32) (a2 : Int32) (a3 : Int32) (M : Mem) : Option (Int32 × Mem) :=
  (ck ((2 : Int32) * v1) 16 (some (a3, (mset M 7 ((2 : Int32) * v1).toNatClampNeg a2))))
noncomputable def F10_stonesOf_b46 (kh : Int32 → Int32 → Int32 → Mem → Option (Int32 × Mem)) (kx54 : Int32 → Int32 → Mem → Option (Int32 × Mem)) (v1 : Int32) (a2 : Int32) (a4 : Int32) (s0 : Int32) (s1 : Int32) (M : Mem) : Option (Int32 × Mem) :=
  kh a2 (s0 ||| s1) (a4 + (1 : Int32)) M
noncomputable def F10_stonesOf_p14 (kh : Int32 → Int32 → Int32 → Mem → Option (Int32 × Mem)) (kx54 : Int32 → Int32 → Mem → Option (Int32 × Mem)) (v1 : Int32) (a2 : Int32) (a3 : Int32) (a4 : Int32) (M : Mem) : Option (Int32 × Mem) :=
  (if (3 : Int32) ≤ a4 then kx54 a2 a3 M else (ck ((2 : Int32) * v1) 16 (lt (mset M 7 ((2 : Int32) * v1).toNatClampNeg a4) (fun M8 => ((F10_isDrawn M8).bind (fun q9 => (if q9.1 = (0 : Int32) then (F10_stonesOf_b46 kh kx54 v1) a2 a4 a3 (0 : Int32) q9.2 else (F10_stonesOf_b46 kh kx54 v1) a2 a4 a3 ((1 : Int32) <<< (a4 &&& (31 : Int32))) q9.2)))))))
noncomputable def F10_stonesOf_h14 (kx54 : Int32 → Int32 → Mem → Option (Int32 × Mem)) (v1 : Int32) : Nat → Int32 → Int32 → Int32 → Mem → Option (Int32 × Mem)
  | 0, _, _, _, _ => none
  | n + 1, a2, a3, a4, M => F10_stonesOf_p14 (F10_stonesOf_h14 kx54 v1 n) kx54 v1 a2 a3 a4 M
noncomputable def F10_stonesOf (v1 : Int32) (mm : Mem) : Option (Int32 × Mem) :=
  (ck ((2 : Int32) * v1) 16 ((F10_stonesOf_h14 (F10_stonesOf_b54 v1) v1 FU) (mm 7 ((2 : Int32) * v1).toNatClampNeg) (0 : Int32) (0 : Int32) mm))
set_option maxHeartbeats 4000000 in
set_option maxRecDepth 100000 in
theorem kX10_stonesOf (l : Launch) (g : GG) (v1 : Int32) (mc mm : Mem) (q : Int32 × Mem) (hF : F10_stonesOf v1 mm = some q) : KI l yX10_stonesOf cX10_stonesOf 5 .int 7 162 g [.ref (g.1 108), .int v1] mc mm q.1 (mc, q.2) := by
  intro sz
  refine x_start (Qc := fun z => QI g z q.1 (mc, q.2)) (by decide +kernel) (Nat.le_of_ble_eq_true rfl) ?_ sz
  intro p e s m args below meth c ls Z hr hlk hP hl
  have hx := Z.1.1
  have hb := Z.1.2.1
  have hown := Z.1.2.2.2.1
  have hts := Z.1.2.2.2.2
  have hS : va_S (AA g s.heap.size) s.heap s.heap [] := va_S.rf
  have hl : lv_has ls 5 [(0, .ref (g.1 108)), (1, .int v1)] := hl
  unfold F10_stonesOf at hF
  have hb54 : ∀ (a2 : Int32) (a3 : Int32) (M : Mem), F10_stonesOf_b54 v1 a2 a3 M = some q → ∀ (H : Heap) (locs : List Loc) (ls : Array Slot), lv_has ls 5 [(0, .ref (g.1 108)), (1, .int v1), (2, .int a2), (3, .int a3)] → va_P g.2.2.1 vwCl (wL g mc M) H → va_S (AA g s.heap.size) s.heap H locs → W p l e { frames := 7, cells := 0, slots := 0, locals := 162 } s m args below meth c H locs 0 0 (MQ below (QI g s.heap.size q.1 (mc, q.2)) args s 0 0 (AA g s.heap.size)) (F0 m 54 ls []) := by
    intro a2 a3 M hF H locs ls hl hP hS
    unfold F10_stonesOf_b54 at hF
    refine lv_aload_n hx hb dX10_stonesOf_54 rfl (lv_at hl 0 rfl) ?_
    refine gf10_8 Z hP wd_6_10 dX10_stonesOf_55 ?_
    refine lv_iconst (v := (2 : Int32)) hx hb dX10_stonesOf_58 ic_2 ?_
    refine lv_iload_n hx hb dX10_stonesOf_59 rfl (lv_at hl 1 rfl) ?_
    refine lv_imul hx hb dX10_stonesOf_60 ?_
    refine lv_iload_n hx hb dX10_stonesOf_61 rfl (lv_at hl 2 rfl) ?_
    obtain ⟨hi6, hF⟩ := ck_ok hF
    refine rM_st Z hP hS 16 7 (by decide +kernel) hi6 dX10_stonesOf_62 (fun H locs hP hS => ?_)
    refine lv_iload_n hx hb dX10_stonesOf_63 rfl (lv_at hl 3 rfl) ?_
    exact ret_IWM Z hr hlk hP hS hF dX10_stonesOf_64
  have hL14 : ∀ (kx54 : Int32 → Int32 → Mem → Option (Int32 × Mem)), (∀ (a2 : Int32) (a3 : Int32) (M : Mem), kx54 a2 a3 M = some q → ∀ (H : Heap) (locs : List Loc) (ls : Array Slot), lv_has ls 5 [(0, .ref (g.1 108)), (1, .int v1), (2, .int a2), (3, .int a3)] → va_P g.2.2.1 vwCl (wL g mc M) H → va_S (AA g s.heap.size) s.heap H locs → W p l e { frames := 7, cells := 0, slots := 0, locals := 162 } s m args below meth c H locs 0 0 (MQ below (QI g s.heap.size q.1 (mc, q.2)) args s 0 0 (AA g s.heap.size)) (F0 m 54 ls [])) → ∀ n : Nat, ∀ (a2 : Int32) (a3 : Int32) (a4 : Int32) (M : Mem), F10_stonesOf_h14 kx54 v1 n a2 a3 a4 M = some q → ∀ (H : Heap) (locs : List Loc) (ls : Array Slot), lv_has ls 5 [(0, .ref (g.1 108)), (1, .int v1), (2, .int a2), (3, .int a3), (4, .int a4)] → va_P g.2.2.1 vwCl (wL g mc M) H → va_S (AA g s.heap.size) s.heap H locs → W p l e { frames := 7, cells := 0, slots := 0, locals := 162 } s m args below meth c H locs 0 0 (MQ below (QI g s.heap.size q.1 (mc, q.2)) args s 0 0 (AA g s.heap.size)) (F0 m 14 ls []) := by
    intro kx54 hx54 n
    induction n with
    | zero => intro a2 a3 a4 M hF H locs ls hl hP hS; exact absurd hF (fun z => nomatch (show (none : Option _) = some q from z))
    | succ n ih =>
      generalize hkh : F10_stonesOf_h14 kx54 v1 n = kh at ih
      have hb46 : ∀ (a2 : Int32) (a4 : Int32) (s0 : Int32) (s1 : Int32) (M : Mem), F10_stonesOf_b46 kh kx54 v1 a2 a4 s0 s1 M = some q → ∀ (H : Heap) (locs : List Loc) (ls : Array Slot), lv_has ls 5 [(0, .ref (g.1 108)), (1, .int v1), (2, .int a2), (4, .int a4)] → va_P g.2.2.1 vwCl (wL g mc M) H → va_S (AA g s.heap.size) s.heap H locs → W p l e { frames := 7, cells := 0, slots := 0, locals := 162 } s m args below meth c H locs 0 0 (MQ below (QI g s.heap.size q.1 (mc, q.2)) args s 0 0 (AA g s.heap.size)) (F0 m 46 ls [.int s1, .int s0]) := by
        intro a2 a4 s0 s1 M hF H locs ls hl hP hS
        unfold F10_stonesOf_b46 at hF
        refine lv_ior hx hb dX10_stonesOf_46 ?_
        refine lv_istore_n (lv' := [(3, .int (s0 ||| s1)), (0, .ref (g.1 108)), (1, .int v1), (2, .int a2), (4, .int a4)]) hx hb dX10_stonesOf_47 rfl hl (Nat.le_of_ble_eq_true rfl) rfl (fun ls hl => ?_)
        refine lv_iinc (lv' := [(4, .int (a4 + (1 : Int32))), (3, .int (s0 ||| s1)), (0, .ref (g.1 108)), (1, .int v1), (2, .int a2)]) (v := (a4 + (1 : Int32))) hx hb dX10_stonesOf_48 hl (k := 4) rfl (io_1 _) (Nat.le_of_ble_eq_true rfl) rfl (fun ls hl => ?_)
        refine lv_goto (tgt := 14) hx hb dX10_stonesOf_51 rfl ?_
        exact ih _ _ _ _ hF _ _ _ (lv_sub hl [2, 3, 4, 1, 0] rfl) hP hS
      intro a2 a3 a4 M hF H locs ls hl hP hS
      have hF : F10_stonesOf_p14 (F10_stonesOf_h14 kx54 v1 n) kx54 v1 a2 a3 a4 M = some q := hF
      rw [hkh] at hF
      unfold F10_stonesOf_p14 at hF
      refine lv_iload hx hb dX10_stonesOf_14 (lv_at hl 4 rfl) ?_
      refine lv_iconst (v := (3 : Int32)) hx hb dX10_stonesOf_16 ic_3 ?_
      refine lv_icmp_ge (tgt := 54) hx hb dX10_stonesOf_17 rfl (fun hc => ?_) (fun hc => ?_)
      · have hF := (if_pos hc).symm.trans hF
        exact hx54 _ _ _ hF _ _ _ (lv_sub hl [0, 1, 2, 3] rfl) hP hS
      · have hF := (if_neg hc).symm.trans hF
        refine lv_aload_n hx hb dX10_stonesOf_20 rfl (lv_at hl 0 rfl) ?_
        refine gf10_8 Z hP wd_6_10 dX10_stonesOf_21 ?_
        refine lv_iconst (v := (2 : Int32)) hx hb dX10_stonesOf_24 ic_2 ?_
        refine lv_iload_n hx hb dX10_stonesOf_25 rfl (lv_at hl 1 rfl) ?_
        refine lv_imul hx hb dX10_stonesOf_26 ?_
        refine lv_iload hx hb dX10_stonesOf_27 (lv_at hl 4 rfl) ?_
        obtain ⟨hi7, hF⟩ := ck_ok hF
        refine rM_st Z hP hS 16 7 (by decide +kernel) hi7 dX10_stonesOf_29 (fun H locs hP hS => ?_)
        refine lv_iload_n hx hb dX10_stonesOf_30 rfl (lv_at hl 3 rfl) ?_
        refine lv_aload_n hx hb dX10_stonesOf_31 rfl (lv_at hl 0 rfl) ?_
        obtain ⟨M8, eM8, hF⟩ := lt_ok hF
        have hP : va_P g.2.2.1 vwCl (wL g mc M8) H := by rw [eM8]; exact hP
        obtain ⟨q9, hq9, hF⟩ := bd_ok hF
        refine xX10_isDrawn Z hP hS hq9 wd_33_14 hl.1 (Nat.le_of_ble_eq_true rfl) ⟨Nat.le_of_ble_eq_true rfl, Nat.le_of_ble_eq_true rfl⟩ dX10_stonesOf_32 (fun H locs hP hS => ?_)
        refine lv_if_eq (tgt := 45) hx hb dX10_stonesOf_35 rfl (fun hc => ?_) (fun hc => ?_)
        · have hF := (if_pos hc).symm.trans hF
          refine lv_iconst (v := (0 : Int32)) hx hb dX10_stonesOf_45 ic_0 ?_
          exact hb46 _ _ _ _ _ hF _ _ _ (lv_sub hl [0, 1, 2, 4] rfl) hP hS
        · have hF := (if_neg hc).symm.trans hF
          refine lv_iconst (v := (1 : Int32)) hx hb dX10_stonesOf_38 ic_1 ?_
          refine lv_iload hx hb dX10_stonesOf_39 (lv_at hl 4 rfl) ?_
          refine lv_ishl hx hb dX10_stonesOf_41 ?_
          refine lv_goto (tgt := 46) hx hb dX10_stonesOf_42 rfl ?_
          exact hb46 _ _ _ _ _ hF _ _ _ (lv_sub hl [0, 1, 2, 4] rfl) hP hS
  refine lv_aload_n hx hb dX10_stonesOf_0 rfl (lv_at hl 0 rfl) ?_
  refine gf10_8 Z hP wd_6_10 dX10_stonesOf_1 ?_
  refine lv_iconst (v := (2 : Int32)) hx hb dX10_stonesOf_4 ic_2 ?_
  refine lv_iload_n hx hb dX10_stonesOf_5 rfl (lv_at hl 1 rfl) ?_
  refine lv_imul hx hb dX10_stonesOf_6 ?_
  obtain ⟨hi10, hF⟩ := ck_ok hF
  refine rM_ld Z hP 16 7 (by decide +kernel) hi10 dX10_stonesOf_7 ?_
  refine lv_istore_n (lv' := [(2, .int (mm 7 ((2 : Int32) * v1).toNatClampNeg)), (0, .ref (g.1 108)), (1, .int v1)]) hx hb dX10_stonesOf_8 rfl hl (Nat.le_of_ble_eq_true rfl) rfl (fun ls hl => ?_)
  refine lv_iconst (v := (0 : Int32)) hx hb dX10_stonesOf_9 ic_0 ?_
  refine lv_istore_n (lv' := [(3, .int (0 : Int32)), (2, .int (mm 7 ((2 : Int32) * v1).toNatClampNeg)), (0, .ref (g.1 108)), (1, .int v1)]) hx hb dX10_stonesOf_10 rfl hl (Nat.le_of_ble_eq_true rfl) rfl (fun ls hl => ?_)
  refine lv_iconst (v := (0 : Int32)) hx hb dX10_stonesOf_11 ic_0 ?_
  refine lv_istore (lv' := [(4, .int (0 : Int32)), (3, .int (0 : Int32)), (2, .int (mm 7 ((2 : Int32) * v1).toNatClampNeg)), (0, .ref (g.1 108)), (1, .int v1)]) hx hb dX10_stonesOf_12 hl (Nat.le_of_ble_eq_true rfl) rfl (fun ls hl => ?_)
  exact (hL14 _ hb54 FU) _ _ _ _ hF _ _ _ (lv_sub hl [3, 4, 2, 1, 0] rfl) hP hS
theorem xX10_stonesOf {p : Program} {l : Launch} {e : Env} {R : Room} {s : State} {m : MethodId} {args : Array Value} {below : List Frame} {meth : Method} {c : Code} {H : Heap} {locs : List Loc} {Q : State → Prop} {cc : ByteArray} {nL : Nat} {own : String} {g : GG} {pc index : Nat} {ls : Array Slot} {rest : List Value} {mc mm : Mem} (Z : ZZ p s m args c cc nL own g) (hP : va_P g.2.2.1 vwCl (wL g mc mm) H) (hS : va_S (AA g s.heap.size) s.heap H locs) {v1 : Int32} {q : Int32 × Mem} (hq : F10_stonesOf v1 mm = some q) (hlk : Cond.methodLink own index yX10_stonesOf ∈ wsL_law) (hsz : ls.size = nL) (hro : (rest.map fun v => v.category).sum ≤ 8) (hR : 7 + 1 ≤ R.frames ∧ 8 + (5 + 11) + 162 ≤ R.locals) (hdg : decode cc pc = .ok (.invokevirtual index, 3)) (kk : ∀ (H : Heap) (locs : List Loc), va_P g.2.2.1 vwCl (wL g mc q.2) H → va_S (AA g s.heap.size) s.heap H locs → W p l e R s m args below meth c H locs 0 0 Q (F0 m (pc + 3) ls (.int q.1 :: rest))) : W p l e R s m args below meth c H locs 0 0 Q (F0 m pc ls (.int v1 :: .ref (g.1 108) :: rest)) :=
  x_VI Z hP hS (kX10_stonesOf l g v1 mc mm q hq) (mO) (ci := 10) (by decide) rfl rfl mf_X10_stonesOf mv_X10_stonesOf hlk rfl rfl hsz hro hR hdg kk
