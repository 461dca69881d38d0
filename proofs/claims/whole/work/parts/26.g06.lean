theorem dX9_type_0 : decode cX9_type 0 = .ok (.iload_n 1, 1) := by decide +kernel
theorem dX9_type_1 : decode cX9_type 1 = .ok (.aload_n 0, 1) := by decide +kernel
theorem dX9_type_2 : decode cX9_type 2 = .ok (.getfield 12, 3) := by decide +kernel
theorem dX9_type_5 : decode cX9_type 5 = .ok (.arraylength, 1) := by decide +kernel
theorem dX9_type_6 : decode cX9_type 6 = .ok (.invokestatic 101, 3) := by decide +kernel
theorem dX9_type_9 : decode cX9_type 9 = .ok (.ifCond .eq 13, 3) := by decide +kernel
theorem dX9_type_12 : decode cX9_type 12 = .ok (.iload_n 2, 1) := by decide +kernel
theorem dX9_type_13 : decode cX9_type 13 = .ok (.sipush 256, 3) := by decide +kernel
theorem dX9_type_16 : decode cX9_type 16 = .ok (.invokestatic 101, 3) := by decide +kernel
theorem dX9_type_19 : decode cX9_type 19 = .ok (.ifCond .ne 6, 3) := by decide +kernel
theorem dX9_type_22 : decode cX9_type 22 = .ok (.bipush (-2), 2) := by decide +kernel
theorem dX9_type_24 : decode cX9_type 24 = .ok (.ireturn, 1) := by decide +kernel
theorem dX9_type_25 : decode cX9_type 25 = .ok (.aload_n 0, 1) := by decide +kernel
theorem dX9_type_26 : decode cX9_type 26 = .ok (.getfield 12, 3) := by decide +kernel
theorem dX9_type_29 : decode cX9_type 29 = .ok (.iload_n 1, 1) := by decide +kernel
theorem dX9_type_30 : decode cX9_type 30 = .ok (.aaload, 1) := by decide +kernel
theorem dX9_type_31 : decode cX9_type 31 = .ok (.iload_n 2, 1) := by decide +kernel
theorem dX9_type_32 : decode cX9_type 32 = .ok (.invokevirtual 105, 3) := by decide +kernel
theorem dX9_type_35 : decode cX9_type 35 = .ok (.ifCond .ne 6, 3) := by decide +kernel
theorem dX9_type_38 : decode cX9_type 38 = .ok (.bipush (-4), 2) := by decide +kernel
theorem dX9_type_40 : decode cX9_type 40 = .ok (.ireturn, 1) := by decide +kernel
theorem dX9_type_41 : decode cX9_type 41 = .ok (.aload_n 0, 1) := by decide +kernel
theorem dX9_type_42 : decode cX9_type 42 = .ok (.iload_n 1, 1) := by decide +kernel
theorem dX9_type_43 : decode cX9_type 43 = .ok (.invokevirtual 109, 3) := by decide +kernel
theorem dX9_type_46 : decode cX9_type 46 = .ok (.aload_n 0, 1) := by decide +kernel
theorem dX9_type_47 : decode cX9_type 47 = .ok (.getfield 12, 3) := by decide +kernel
theorem dX9_type_50 : decode cX9_type 50 = .ok (.iload_n 1, 1) := by decide +kernel
theorem dX9_type_51 : decode cX9_type 51 = .ok (.aaload, 1) := by decide +kernel
theorem dX9_type_52 : decode cX9_type 52 = .ok (.getfield 112, 3) := by decide +kernel
theorem dX9_type_55 : decode cX9_type 55 = .ok (.ireturn, 1) := by decide +kernel
noncomputable def F9_type (v1 : Int32) (v2 : Int32) (mc : Mem) : Option (Int32 × Mem) :=
  ((F9_in v1 (2 : Int32)).bind (fun q7 => (if q7 = (0 : Int32) then some ((-2 : Int32), mc) else ((F9_in v2 (256 : Int32)).bind (fun q8 => (if q8 = (0 : Int32) then some ((-2 : Int32), mc) else (ck v1 2 ((F7_add (2 + 2 * v1.toNatClampNeg) v2 mc).bind (fun q10 => (if q10.1 = (0 : Int32) then some ((-4 : Int32), q10.2) else ((F9_textChanged v1 q10.2).bind (fun q11 => (ck v1 2 (some ((q11 (2 + 2 * v1.toNatClampNeg) 1), q11)))))))))))))))
set_option maxHeartbeats 4000000 in
set_option maxRecDepth 100000 in
theorem kX9_type (l : Launch) (g : GG) (v1 : Int32) (v2 : Int32) (mc mm : Mem) (q : Int32 × Mem) (hF : F9_type v1 v2 mc = some q) : KI l yX9_type cX9_type 3 .int 9 220 g [.ref (g.1 0), .int v1, .int v2] mc mm q.1 (q.2, mm) := by
  intro sz
  refine x_start (Qc := fun z => QI g z q.1 (q.2, mm)) (by decide +kernel) (Nat.le_of_ble_eq_true rfl) ?_ sz
  intro p e s m args below meth c ls Z hr hlk hP hl
  have hx := Z.1.1
  have hb := Z.1.2.1
  have hown := Z.1.2.2.2.1
  have hts := Z.1.2.2.2.2
  have hS : va_S (AA g s.heap.size) s.heap s.heap [] := va_S.rf
  have hl : lv_has ls 3 [(0, .ref (g.1 0)), (1, .int v1), (2, .int v2)] := hl
  unfold F9_type at hF
  refine lv_iload_n hx hb dX9_type_0 rfl (lv_at hl 1 rfl) ?_
  refine lv_aload_n hx hb dX9_type_1 rfl (lv_at hl 0 rfl) ?_
  refine gf9_0 Z hP wd_1_15 dX9_type_2 ?_
  refine rq_len_22 Z hP dX9_type_5 ?_
  obtain ⟨q7, hq7, hF⟩ := bd_ok hF
  refine xX9_in Z hP hS hq7 wd_7_7 hl.1 (Nat.le_of_ble_eq_true rfl) ⟨Nat.le_of_ble_eq_true rfl, Nat.le_of_ble_eq_true rfl⟩ dX9_type_6 (fun H locs hP hS => ?_)
  refine lv_if_eq (tgt := 22) hx hb dX9_type_9 rfl (fun hc => ?_) (fun hc => ?_)
  · have hF := (if_pos hc).symm.trans hF
    refine lv_bipush (v := (-2 : Int32)) hx hb dX9_type_22 bp_m2 ?_
    exact ret_IWC Z hr hlk hP hS hF dX9_type_24
  · have hF := (if_neg hc).symm.trans hF
    refine lv_iload_n hx hb dX9_type_12 rfl (lv_at hl 2 rfl) ?_
    refine lv_sipush (v := (256 : Int32)) hx hb dX9_type_13 sp_256 ?_
    obtain ⟨q8, hq8, hF⟩ := bd_ok hF
    refine xX9_in Z hP hS hq8 wd_7_7 hl.1 (Nat.le_of_ble_eq_true rfl) ⟨Nat.le_of_ble_eq_true rfl, Nat.le_of_ble_eq_true rfl⟩ dX9_type_16 (fun H locs hP hS => ?_)
    refine lv_if_ne (tgt := 25) hx hb dX9_type_19 rfl (fun hc => ?_) (fun hc => ?_)
    · have hF := (if_neg hc).symm.trans hF
      refine lv_aload_n hx hb dX9_type_25 rfl (lv_at hl 0 rfl) ?_
      refine gf9_0 Z hP wd_1_15 dX9_type_26 ?_
      refine lv_iload_n hx hb dX9_type_29 rfl (lv_at hl 1 rfl) ?_
      obtain ⟨hi9, hF⟩ := ck_ok hF
      refine rq_22 Z hP hi9 dX9_type_30 ?_
      refine lv_iload_n hx hb dX9_type_31 rfl (lv_at hl 2 rfl) ?_
      obtain ⟨q10, hq10, hF⟩ := bd_ok hF
      refine xX7_add Z hP hS (ir_22 hi9) hq10 wd_7_10 hl.1 (Nat.le_of_ble_eq_true rfl) ⟨Nat.le_of_ble_eq_true rfl, Nat.le_of_ble_eq_true rfl⟩ dX9_type_32 (fun H locs hP hS => ?_)
      refine lv_if_ne (tgt := 41) hx hb dX9_type_35 rfl (fun hc => ?_) (fun hc => ?_)
      · have hF := (if_neg hc).symm.trans hF
        refine lv_aload_n hx hb dX9_type_41 rfl (lv_at hl 0 rfl) ?_
        refine lv_iload_n hx hb dX9_type_42 rfl (lv_at hl 1 rfl) ?_
        obtain ⟨q11, hq11, hF⟩ := bd_ok hF
        refine xX9_textChanged Z hP hS hq11 wd_7_15 hl.1 (Nat.le_of_ble_eq_true rfl) ⟨Nat.le_of_ble_eq_true rfl, Nat.le_of_ble_eq_true rfl⟩ dX9_type_43 (fun H locs hP hS => ?_)
        refine lv_aload_n hx hb dX9_type_46 rfl (lv_at hl 0 rfl) ?_
        refine gf9_0 Z hP wd_1_15 dX9_type_47 ?_
        refine lv_iload_n hx hb dX9_type_50 rfl (lv_at hl 1 rfl) ?_
        obtain ⟨hi12, hF⟩ := ck_ok hF
        refine rq_22 Z hP hi12 dX9_type_51 ?_
        refine gf7_1N Z hP (ir_22 hi12) nf_0 dX9_type_52 ?_
        exact ret_IWC Z hr hlk hP hS hF dX9_type_55
      · have hF := (if_pos hc).symm.trans hF
        refine lv_bipush (v := (-4 : Int32)) hx hb dX9_type_38 bp_m4 ?_
        exact ret_IWC Z hr hlk hP hS hF dX9_type_40
    · have hF := (if_pos hc).symm.trans hF
      refine lv_bipush (v := (-2 : Int32)) hx hb dX9_type_22 bp_m2 ?_
      exact ret_IWC Z hr hlk hP hS hF dX9_type_24
theorem xX9_type {p : Program} {l : Launch} {e : Env} {R : Room} {s : State} {m : MethodId} {args : Array Value} {below : List Frame} {meth : Method} {c : Code} {H : Heap} {locs : List Loc} {Q : State → Prop} {cc : ByteArray} {nL : Nat} {own : String} {g : GG} {pc index : Nat} {ls : Array Slot} {rest : List Value} {mc mm : Mem} (Z : ZZ p s m args c cc nL own g) (hP : va_P g.2.2.1 vwCl (wL g mc mm) H) (hS : va_S (AA g s.heap.size) s.heap H locs) {v1 : Int32} {v2 : Int32} {q : Int32 × Mem} (hq : F9_type v1 v2 mc = some q) (hlk : Cond.methodLink own index yX9_type ∈ wsL_law) (hsz : ls.size = nL) (hro : (rest.map fun v => v.category).sum ≤ 8) (hR : 9 + 1 ≤ R.frames ∧ 8 + (3 + 11) + 220 ≤ R.locals) (hdg : decode cc pc = .ok (.invokevirtual index, 3)) (kk : ∀ (H : Heap) (locs : List Loc), va_P g.2.2.1 vwCl (wL g q.2 mm) H → va_S (AA g s.heap.size) s.heap H locs → W p l e R s m args below meth c H locs 0 0 Q (F0 m (pc + 3) ls (.int q.1 :: rest))) : W p l e R s m args below meth c H locs 0 0 Q (F0 m pc ls (.int v2 :: .int v1 :: .ref (g.1 0) :: rest)) :=
  x_VI Z hP hS (kX9_type l g v1 v2 mc mm q hq) (isO_w ck_0) (ci := 9) (by decide) rfl rfl mf_X9_type mv_X9_type hlk rfl rfl hsz hro hR hdg kk
theorem dX9_wipe_0 : decode cX9_wipe 0 = .ok (.iload_n 1, 1) := by decide +kernel
theorem dX9_wipe_1 : decode cX9_wipe 1 = .ok (.aload_n 0, 1) := by decide +kernel
theorem dX9_wipe_2 : decode cX9_wipe 2 = .ok (.getfield 12, 3) := by decide +kernel
theorem dX9_wipe_5 : decode cX9_wipe 5 = .ok (.arraylength, 1) := by decide +kernel
theorem dX9_wipe_6 : decode cX9_wipe 6 = .ok (.invokestatic 101, 3) := by decide +kernel
theorem dX9_wipe_9 : decode cX9_wipe 9 = .ok (.ifCond .ne 6, 3) := by decide +kernel
theorem dX9_wipe_12 : decode cX9_wipe 12 = .ok (.bipush (-2), 2) := by decide +kernel
theorem dX9_wipe_14 : decode cX9_wipe 14 = .ok (.ireturn, 1) := by decide +kernel
theorem dX9_wipe_15 : decode cX9_wipe 15 = .ok (.aload_n 0, 1) := by decide +kernel
theorem dX9_wipe_16 : decode cX9_wipe 16 = .ok (.getfield 12, 3) := by decide +kernel
theorem dX9_wipe_19 : decode cX9_wipe 19 = .ok (.iload_n 1, 1) := by decide +kernel
theorem dX9_wipe_20 : decode cX9_wipe 20 = .ok (.aaload, 1) := by decide +kernel
theorem dX9_wipe_21 : decode cX9_wipe 21 = .ok (.getfield 112, 3) := by decide +kernel
theorem dX9_wipe_24 : decode cX9_wipe 24 = .ok (.istore_n 2, 1) := by decide +kernel
theorem dX9_wipe_25 : decode cX9_wipe 25 = .ok (.aload_n 0, 1) := by decide +kernel
theorem dX9_wipe_26 : decode cX9_wipe 26 = .ok (.getfield 12, 3) := by decide +kernel
theorem dX9_wipe_29 : decode cX9_wipe 29 = .ok (.iload_n 1, 1) := by decide +kernel
theorem dX9_wipe_30 : decode cX9_wipe 30 = .ok (.aaload, 1) := by decide +kernel
theorem dX9_wipe_31 : decode cX9_wipe 31 = .ok (.iconst 0, 1) := by decide +kernel
theorem dX9_wipe_32 : decode cX9_wipe 32 = .ok (.putfield 112, 3) := by decide +kernel
theorem dX9_wipe_35 : decode cX9_wipe 35 = .ok (.aload_n 0, 1) := by decide +kernel
theorem dX9_wipe_36 : decode cX9_wipe 36 = .ok (.iload_n 1, 1) := by decide +kernel
theorem dX9_wipe_37 : decode cX9_wipe 37 = .ok (.invokevirtual 109, 3) := by decide +kernel
theorem dX9_wipe_40 : decode cX9_wipe 40 = .ok (.iload_n 2, 1) := by decide +kernel
theorem dX9_wipe_41 : decode cX9_wipe 41 = .ok (.ireturn, 1) := by decide +kernel
noncomputable def F9_wipe (v1 : Int32) (mc : Mem) : Option (Int32 × Mem) :=
  ((F9_in v1 (2 : Int32)).bind (fun q6 => (if q6 = (0 : Int32) then some ((-2 : Int32), mc) else (ck v1 2 (ck v1 2 (lt (mset mc (2 + 2 * v1.toNatClampNeg) 1 (0 : Int32)) (fun M9 => ((F9_textChanged v1 M9).bind (fun q10 => (some ((mc (2 + 2 * v1.toNatClampNeg) 1), q10)))))))))))
set_option maxHeartbeats 4000000 in
set_option maxRecDepth 100000 in
theorem kX9_wipe (l : Launch) (g : GG) (v1 : Int32) (mc mm : Mem) (q : Int32 × Mem) (hF : F9_wipe v1 mc = some q) : KI l yX9_wipe cX9_wipe 3 .int 9 220 g [.ref (g.1 0), .int v1] mc mm q.1 (q.2, mm) := by
  intro sz
  refine x_start (Qc := fun z => QI g z q.1 (q.2, mm)) (by decide +kernel) (Nat.le_of_ble_eq_true rfl) ?_ sz
  intro p e s m args below meth c ls Z hr hlk hP hl
  have hx := Z.1.1
  have hb := Z.1.2.1
  have hown := Z.1.2.2.2.1
  have hts := Z.1.2.2.2.2
  have hS : va_S (AA g s.heap.size) s.heap s.heap [] := va_S.rf
  have hl : lv_has ls 3 [(0, .ref (g.1 0)), (1, .int v1)] := hl
  unfold F9_wipe at hF
  refine lv_iload_n hx hb dX9_wipe_0 rfl (lv_at hl 1 rfl) ?_
  refine lv_aload_n hx hb dX9_wipe_1 rfl (lv_at hl 0 rfl) ?_
  refine gf9_0 Z hP wd_1_15 dX9_wipe_2 ?_
  refine rq_len_22 Z hP dX9_wipe_5 ?_
  obtain ⟨q6, hq6, hF⟩ := bd_ok hF
  refine xX9_in Z hP hS hq6 wd_7_7 hl.1 (Nat.le_of_ble_eq_true rfl) ⟨Nat.le_of_ble_eq_true rfl, Nat.le_of_ble_eq_true rfl⟩ dX9_wipe_6 (fun H locs hP hS => ?_)
  refine lv_if_ne (tgt := 15) hx hb dX9_wipe_9 rfl (fun hc => ?_) (fun hc => ?_)
  · have hF := (if_neg hc).symm.trans hF
    refine lv_aload_n hx hb dX9_wipe_15 rfl (lv_at hl 0 rfl) ?_
    refine gf9_0 Z hP wd_1_15 dX9_wipe_16 ?_
    refine lv_iload_n hx hb dX9_wipe_19 rfl (lv_at hl 1 rfl) ?_
    obtain ⟨hi7, hF⟩ := ck_ok hF
    refine rq_22 Z hP hi7 dX9_wipe_20 ?_
    refine gf7_1N Z hP (ir_22 hi7) nf_0 dX9_wipe_21 ?_
    refine lv_istore_n (lv' := [(2, .int (mc (2 + 2 * v1.toNatClampNeg) 1)), (0, .ref (g.1 0)), (1, .int v1)]) hx hb dX9_wipe_24 rfl hl (Nat.le_of_ble_eq_true rfl) rfl (fun ls hl => ?_)
    refine lv_aload_n hx hb dX9_wipe_25 rfl (lv_at hl 1 rfl) ?_
    refine gf9_0 Z hP wd_1_15 dX9_wipe_26 ?_
    refine lv_iload_n hx hb dX9_wipe_29 rfl (lv_at hl 2 rfl) ?_
    obtain ⟨hi8, hF⟩ := ck_ok hF
    refine rq_22 Z hP hi8 dX9_wipe_30 ?_
    refine lv_iconst (v := (0 : Int32)) hx hb dX9_wipe_31 ic_0 ?_
    refine pf7_1N Z hP hS (ir_22 hi8) nf_0 dX9_wipe_32 (fun H locs hP hS => ?_)
    refine lv_aload_n hx hb dX9_wipe_35 rfl (lv_at hl 1 rfl) ?_
    refine lv_iload_n hx hb dX9_wipe_36 rfl (lv_at hl 2 rfl) ?_
    obtain ⟨M9, eM9, hF⟩ := lt_ok hF
    have hP : va_P g.2.2.1 vwCl (wL g M9 mm) H := by rw [eM9]; exact hP
    obtain ⟨q10, hq10, hF⟩ := bd_ok hF
    refine xX9_textChanged Z hP hS hq10 wd_7_15 hl.1 (Nat.le_of_ble_eq_true rfl) ⟨Nat.le_of_ble_eq_true rfl, Nat.le_of_ble_eq_true rfl⟩ dX9_wipe_37 (fun H locs hP hS => ?_)
    refine lv_iload_n hx hb dX9_wipe_40 rfl (lv_at hl 0 rfl) ?_
    exact ret_IWC Z hr hlk hP hS hF dX9_wipe_41
  · have hF := (if_pos hc).symm.trans hF
    refine lv_bipush (v := (-2 : Int32)) hx hb dX9_wipe_12 bp_m2 ?_
    exact ret_IWC Z hr hlk hP hS hF dX9_wipe_14
theorem xX9_wipe {p : Program} {l : Launch} {e : Env} {R : Room} {s : State} {m : MethodId} {args : Array Value} {below : List Frame} {meth : Method} {c : Code} {H : Heap} {locs : List Loc} {Q : State → Prop} {cc : ByteArray} {nL : Nat} {own : String} {g : GG} {pc index : Nat} {ls : Array Slot} {rest : List Value} {mc mm : Mem} (Z : ZZ p s m args c cc nL own g) (hP : va_P g.2.2.1 vwCl (wL g mc mm) H) (hS : va_S (AA g s.heap.size) s.heap H locs) {v1 : Int32} {q : Int32 × Mem} (hq : F9_wipe v1 mc = some q) (hlk : Cond.methodLink own index yX9_wipe ∈ wsL_law) (hsz : ls.size = nL) (hro : (rest.map fun v => v.category).sum ≤ 8) (hR : 9 + 1 ≤ R.frames ∧ 8 + (3 + 11) + 220 ≤ R.locals) (hdg : decode cc pc = .ok (.invokevirtual index, 3)) (kk : ∀ (H : Heap) (locs : List Loc), va_P g.2.2.1 vwCl (wL g q.2 mm) H → va_S (AA g s.heap.size) s.heap H locs → W p l e R s m args below meth c H locs 0 0 Q (F0 m (pc + 3) ls (.int q.1 :: rest))) : W p l e R s m args below meth c H locs 0 0 Q (F0 m pc ls (.int v1 :: .ref (g.1 0) :: rest)) :=
  x_VI Z hP hS (kX9_wipe l g v1 mc mm q hq) (isO_w ck_0) (ci := 9) (by decide) rfl rfl mf_X9_wipe mv_X9_wipe hlk rfl rfl hsz hro hR hdg kk
theorem dX9_undo_0 : decode cX9_undo 0 = .ok (.iload_n 1, 1) := by decide +kernel
theorem dX9_undo_1 : decode cX9_undo 1 = .ok (.aload_n 0, 1) := by decide +kernel
theorem dX9_undo_2 : decode cX9_undo 2 = .ok (.getfield 12, 3) := by decide +kernel
theorem dX9_undo_5 : decode cX9_undo 5 = .ok (.arraylength, 1) := by decide +kernel
theorem dX9_undo_6 : decode cX9_undo 6 = .ok (.invokestatic 101, 3) := by decide +kernel
theorem dX9_undo_9 : decode cX9_undo 9 = .ok (.ifCond .ne 6, 3) := by decide +kernel
theorem dX9_undo_12 : decode cX9_undo 12 = .ok (.bipush (-2), 2) := by decide +kernel
theorem dX9_undo_14 : decode cX9_undo 14 = .ok (.ireturn, 1) := by decide +kernel
theorem dX9_undo_15 : decode cX9_undo 15 = .ok (.aload_n 0, 1) := by decide +kernel
theorem dX9_undo_16 : decode cX9_undo 16 = .ok (.getfield 12, 3) := by decide +kernel
theorem dX9_undo_19 : decode cX9_undo 19 = .ok (.iload_n 1, 1) := by decide +kernel
theorem dX9_undo_20 : decode cX9_undo 20 = .ok (.aaload, 1) := by decide +kernel
theorem dX9_undo_21 : decode cX9_undo 21 = .ok (.getfield 112, 3) := by decide +kernel
theorem dX9_undo_24 : decode cX9_undo 24 = .ok (.ifCond .ne 6, 3) := by decide +kernel
theorem dX9_undo_27 : decode cX9_undo 27 = .ok (.bipush (-3), 2) := by decide +kernel
theorem dX9_undo_29 : decode cX9_undo 29 = .ok (.ireturn, 1) := by decide +kernel
theorem dX9_undo_30 : decode cX9_undo 30 = .ok (.aload_n 0, 1) := by decide +kernel
theorem dX9_undo_31 : decode cX9_undo 31 = .ok (.getfield 12, 3) := by decide +kernel
theorem dX9_undo_34 : decode cX9_undo 34 = .ok (.iload_n 1, 1) := by decide +kernel
theorem dX9_undo_35 : decode cX9_undo 35 = .ok (.aaload, 1) := by decide +kernel
theorem dX9_undo_36 : decode cX9_undo 36 = .ok (.dup, 1) := by decide +kernel
theorem dX9_undo_37 : decode cX9_undo 37 = .ok (.getfield 112, 3) := by decide +kernel
theorem dX9_undo_40 : decode cX9_undo 40 = .ok (.iconst 1, 1) := by decide +kernel
theorem dX9_undo_41 : decode cX9_undo 41 = .ok (.isub, 1) := by decide +kernel
theorem dX9_undo_42 : decode cX9_undo 42 = .ok (.putfield 112, 3) := by decide +kernel
theorem dX9_undo_45 : decode cX9_undo 45 = .ok (.aload_n 0, 1) := by decide +kernel
theorem dX9_undo_46 : decode cX9_undo 46 = .ok (.iload_n 1, 1) := by decide +kernel
theorem dX9_undo_47 : decode cX9_undo 47 = .ok (.invokevirtual 109, 3) := by decide +kernel
theorem dX9_undo_50 : decode cX9_undo 50 = .ok (.aload_n 0, 1) := by decide +kernel
theorem dX9_undo_51 : decode cX9_undo 51 = .ok (.getfield 12, 3) := by decide +kernel
theorem dX9_undo_54 : decode cX9_undo 54 = .ok (.iload_n 1, 1) := by decide +kernel
theorem dX9_undo_55 : decode cX9_undo 55 = .ok (.aaload, 1) := by decide +kernel
theorem dX9_undo_56 : decode cX9_undo 56 = .ok (.getfield 112, 3) := by decide +kernel
theorem dX9_undo_59 : decode cX9_undo 59 = .ok (.ireturn, 1) := by decide +kernel
noncomputable def F9_undo (v1 : Int32) (mc : Mem) : Option (Int32 × Mem) :=
  ((F9_in v1 (2 : Int32)).bind (fun q7 => (if q7 = (0 : Int32) then some ((-2 : Int32), mc) else (ck v1 2 (if (mc (2 + 2 * v1.toNatClampNeg) 1) = (0 : Int32) then some ((-3 : Int32), mc) else (ck v1 2 (lt (mset mc (2 + 2 * v1.toNatClampNeg) 1 ((mc (2 + 2 * v1.toNatClampNeg) 1) - (1 : Int32))) (fun M10 => ((F9_textChanged v1 M10).bind (fun q11 => (ck v1 2 (some ((q11 (2 + 2 * v1.toNatClampNeg) 1), q11)))))))))))))
set_option maxHeartbeats 4000000 in
set_option maxRecDepth 100000 in
theorem kX9_undo (l : Launch) (g : GG) (v1 : Int32) (mc mm : Mem) (q : Int32 × Mem) (hF : F9_undo v1 mc = some q) : KI l yX9_undo cX9_undo 2 .int 9 220 g [.ref (g.1 0), .int v1] mc mm q.1 (q.2, mm) := by
  intro sz
  refine x_start (Qc := fun z => QI g z q.1 (q.2, mm)) (by decide +kernel) (Nat.le_of_ble_eq_true rfl) ?_ sz
  intro p e s m args below meth c ls Z hr hlk hP hl
  have hx := Z.1.1
  have hb := Z.1.2.1
  have hown := Z.1.2.2.2.1
  have hts := Z.1.2.2.2.2
  have hS : va_S (AA g s.heap.size) s.heap s.heap [] := va_S.rf
  have hl : lv_has ls 2 [(0, .ref (g.1 0)), (1, .int v1)] := hl
  unfold F9_undo at hF
  refine lv_iload_n hx hb dX9_undo_0 rfl (lv_at hl 1 rfl) ?_
  refine lv_aload_n hx hb dX9_undo_1 rfl (lv_at hl 0 rfl) ?_
  refine gf9_0 Z hP wd_1_15 dX9_undo_2 ?_
  refine rq_len_22 Z hP dX9_undo_5 ?_
  obtain ⟨q7, hq7, hF⟩ := bd_ok hF
  refine xX9_in Z hP hS hq7 wd_7_7 hl.1 (Nat.le_of_ble_eq_true rfl) ⟨Nat.le_of_ble_eq_true rfl, Nat.le_of_ble_eq_true rfl⟩ dX9_undo_6 (fun H locs hP hS => ?_)
  refine lv_if_ne (tgt := 15) hx hb dX9_undo_9 rfl (fun hc => ?_) (fun hc => ?_)
  · have hF := (if_neg hc).symm.trans hF
    refine lv_aload_n hx hb dX9_undo_15 rfl (lv_at hl 0 rfl) ?_
    refine gf9_0 Z hP wd_1_15 dX9_undo_16 ?_
    refine lv_iload_n hx hb dX9_undo_19 rfl (lv_at hl 1 rfl) ?_
    obtain ⟨hi8, hF⟩ := ck_ok hF
    refine rq_22 Z hP hi8 dX9_undo_20 ?_
    refine gf7_1N Z hP (ir_22 hi8) nf_0 dX9_undo_21 ?_
    refine lv_if_ne (tgt := 30) hx hb dX9_undo_24 rfl (fun hc => ?_) (fun hc => ?_)
    · have hF := (if_neg hc).symm.trans hF
      refine lv_aload_n hx hb dX9_undo_30 rfl (lv_at hl 0 rfl) ?_
      refine gf9_0 Z hP wd_1_15 dX9_undo_31 ?_
      refine lv_iload_n hx hb dX9_undo_34 rfl (lv_at hl 1 rfl) ?_
      obtain ⟨hi9, hF⟩ := ck_ok hF
      refine rq_22 Z hP hi9 dX9_undo_35 ?_
      refine lv_dup hx hb dX9_undo_36 rfl ?_
      refine gf7_1N Z hP (ir_22 hi9) nf_0 dX9_undo_37 ?_
      refine lv_iconst (v := (1 : Int32)) hx hb dX9_undo_40 ic_1 ?_
      refine lv_isub hx hb dX9_undo_41 ?_
      refine pf7_1N Z hP hS (ir_22 hi9) nf_0 dX9_undo_42 (fun H locs hP hS => ?_)
      refine lv_aload_n hx hb dX9_undo_45 rfl (lv_at hl 0 rfl) ?_
      refine lv_iload_n hx hb dX9_undo_46 rfl (lv_at hl 1 rfl) ?_
      obtain ⟨M10, eM10, hF⟩ := lt_ok hF
      have hP : va_P g.2.2.1 vwCl (wL g M10 mm) H := by rw [eM10]; exact hP
      obtain ⟨q11, hq11, hF⟩ := bd_ok hF
      refine xX9_textChanged Z hP hS hq11 wd_7_15 hl.1 (Nat.le_of_ble_eq_true rfl) ⟨Nat.le_of_ble_eq_true rfl, Nat.le_of_ble_eq_true rfl⟩ dX9_undo_47 (fun H locs hP hS => ?_)
      refine lv_aload_n hx hb dX9_undo_50 rfl (lv_at hl 0 rfl) ?_
      refine gf9_0 Z hP wd_1_15 dX9_undo_51 ?_
      refine lv_iload_n hx hb dX9_undo_54 rfl (lv_at hl 1 rfl) ?_
      obtain ⟨hi12, hF⟩ := ck_ok hF
      refine rq_22 Z hP hi12 dX9_undo_55 ?_
      refine gf7_1N Z hP (ir_22 hi12) nf_0 dX9_undo_56 ?_
      exact ret_IWC Z hr hlk hP hS hF dX9_undo_59
    · have hF := (if_pos hc).symm.trans hF
      refine lv_bipush (v := (-3 : Int32)) hx hb dX9_undo_27 bp_m3 ?_
      exact ret_IWC Z hr hlk hP hS hF dX9_undo_29
  · have hF := (if_pos hc).symm.trans hF
    refine lv_bipush (v := (-2 : Int32)) hx hb dX9_undo_12 bp_m2 ?_
    exact ret_IWC Z hr hlk hP hS hF dX9_undo_14
theorem xX9_undo {p : Program} {l : Launch} {e : Env} {R : Room} {s : State} {m : MethodId} {args : Array Value} {below : List Frame} {meth : Method} {c : Code} {H : Heap} {locs : List Loc} {Q : State → Prop} {cc : ByteArray} {nL : Nat} {own : String} {g : GG} {pc index : Nat} {ls : Array Slot} {rest : List Value} {mc mm : Mem} (Z : ZZ p s m args c cc nL own g) (hP : va_P g.2.2.1 vwCl (wL g mc mm) H) (hS : va_S (AA g s.heap.size) s.heap H locs) {v1 : Int32} {q : Int32 × Mem} (hq : F9_undo v1 mc = some q) (hlk : Cond.methodLink own index yX9_undo ∈ wsL_law) (hsz : ls.size = nL) (hro : (rest.map fun v => v.category).sum ≤ 8) (hR : 9 + 1 ≤ R.frames ∧ 8 + (2 + 11) + 220 ≤ R.locals) (hdg : decode cc pc = .ok (.invokevirtual index, 3)) (kk : ∀ (H : Heap) (locs : List Loc), va_P g.2.2.1 vwCl (wL g q.2 mm) H → va_S (AA g s.heap.size) s.heap H locs → W p l e R s m args below meth c H locs 0 0 Q (F0 m (pc + 3) ls (.int q.1 :: rest))) : W p l e R s m args below meth c H locs 0 0 Q (F0 m pc ls (.int v1 :: .ref (g.1 0) :: rest)) :=
  x_VI Z hP hS (kX9_undo l g v1 mc mm q hq) (isO_w ck_0) (ci := 9) (by decide) rfl rfl mf_X9_undo mv_X9_undo hlk rfl rfl hsz hro hR hdg kk
theorem dX9_fault_0 : decode cX9_fault 0 = .ok (.iload_n 1, 1) := by decide +kernel
theorem dX9_fault_1 : decode cX9_fault 1 = .ok (.aload_n 0, 1) := by decide +kernel
theorem dX9_fault_2 : decode cX9_fault 2 = .ok (.getfield 12, 3) := by decide +kernel
theorem dX9_fault_5 : decode cX9_fault 5 = .ok (.arraylength, 1) := by decide +kernel
theorem dX9_fault_6 : decode cX9_fault 6 = .ok (.invokestatic 101, 3) := by decide +kernel
theorem dX9_fault_9 : decode cX9_fault 9 = .ok (.ifCond .eq 15, 3) := by decide +kernel
theorem dX9_fault_12 : decode cX9_fault 12 = .ok (.aload_n 0, 1) := by decide +kernel
theorem dX9_fault_13 : decode cX9_fault 13 = .ok (.getfield 12, 3) := by decide +kernel
theorem dX9_fault_16 : decode cX9_fault 16 = .ok (.iload_n 1, 1) := by decide +kernel
theorem dX9_fault_17 : decode cX9_fault 17 = .ok (.aaload, 1) := by decide +kernel
theorem dX9_fault_18 : decode cX9_fault 18 = .ok (.getfield 116, 3) := by decide +kernel
theorem dX9_fault_21 : decode cX9_fault 21 = .ok (.goto 5, 3) := by decide +kernel
theorem dX9_fault_24 : decode cX9_fault 24 = .ok (.bipush (-2), 2) := by decide +kernel
theorem dX9_fault_26 : decode cX9_fault 26 = .ok (.ireturn, 1) := by decide +kernel
noncomputable def F9_fault (v1 : Int32) (mc : Mem) : Option (Int32) :=
  ((F9_in v1 (2 : Int32)).bind (fun q3 => (if q3 = (0 : Int32) then some (-2 : Int32) else (ck v1 2 (some (mc (2 + 2 * v1.toNatClampNeg) 2))))))
set_option maxHeartbeats 4000000 in
set_option maxRecDepth 100000 in
theorem kX9_fault (l : Launch) (g : GG) (v1 : Int32) (mc mm : Mem) (q : Int32) (hF : F9_fault v1 mc = some q) : KI l yX9_fault cX9_fault 2 .int 1 21 g [.ref (g.1 0), .int v1] mc mm q (mc, mm) := by
  intro sz
  refine x_start (Qc := fun z => QI g z q (mc, mm)) (by decide +kernel) (Nat.le_of_ble_eq_true rfl) ?_ sz
  intro p e s m args below meth c ls Z hr hlk hP hl
  have hx := Z.1.1
  have hb := Z.1.2.1
  have hown := Z.1.2.2.2.1
  have hts := Z.1.2.2.2.2
  have hS : va_S (AA g s.heap.size) s.heap s.heap [] := va_S.rf
  have hl : lv_has ls 2 [(0, .ref (g.1 0)), (1, .int v1)] := hl
  unfold F9_fault at hF
  refine lv_iload_n hx hb dX9_fault_0 rfl (lv_at hl 1 rfl) ?_
  refine lv_aload_n hx hb dX9_fault_1 rfl (lv_at hl 0 rfl) ?_
  refine gf9_0 Z hP wd_1_15 dX9_fault_2 ?_
  refine rq_len_22 Z hP dX9_fault_5 ?_
  obtain ⟨q3, hq3, hF⟩ := bd_ok hF
  refine xX9_in Z hP hS hq3 wd_7_7 hl.1 (Nat.le_of_ble_eq_true rfl) ⟨Nat.le_of_ble_eq_true rfl, Nat.le_of_ble_eq_true rfl⟩ dX9_fault_6 (fun H locs hP hS => ?_)
  refine lv_if_eq (tgt := 24) hx hb dX9_fault_9 rfl (fun hc => ?_) (fun hc => ?_)
  · have hF := (if_pos hc).symm.trans hF
    refine lv_bipush (v := (-2 : Int32)) hx hb dX9_fault_24 bp_m2 ?_
    exact ret_I Z hr hlk hP hS hF dX9_fault_26
  · have hF := (if_neg hc).symm.trans hF
    refine lv_aload_n hx hb dX9_fault_12 rfl (lv_at hl 0 rfl) ?_
    refine gf9_0 Z hP wd_1_15 dX9_fault_13 ?_
    refine lv_iload_n hx hb dX9_fault_16 rfl (lv_at hl 1 rfl) ?_
    obtain ⟨hi4, hF⟩ := ck_ok hF
    refine rq_22 Z hP hi4 dX9_fault_17 ?_
    refine gf7_2N Z hP (ir_22 hi4) nf_1 dX9_fault_18 ?_
    refine lv_goto (tgt := 26) hx hb dX9_fault_21 rfl ?_
    exact ret_I Z hr hlk hP hS hF dX9_fault_26
theorem xX9_fault {p : Program} {l : Launch} {e : Env} {R : Room} {s : State} {m : MethodId} {args : Array Value} {below : List Frame} {meth : Method} {c : Code} {H : Heap} {locs : List Loc} {Q : State → Prop} {cc : ByteArray} {nL : Nat} {own : String} {g : GG} {pc index : Nat} {ls : Array Slot} {rest : List Value} {mc mm : Mem} (Z : ZZ p s m args c cc nL own g) (hP : va_P g.2.2.1 vwCl (wL g mc mm) H) (hS : va_S (AA g s.heap.size) s.heap H locs) {v1 : Int32} {q : Int32} (hq : F9_fault v1 mc = some q) (hlk : Cond.methodLink own index yX9_fault ∈ wsL_law) (hsz : ls.size = nL) (hro : (rest.map fun v => v.category).sum ≤ 8) (hR : 1 + 1 ≤ R.frames ∧ 8 + (2 + 11) + 21 ≤ R.locals) (hdg : decode cc pc = .ok (.invokevirtual index, 3)) (kk : ∀ (H : Heap) (locs : List Loc), va_P g.2.2.1 vwCl (wL g mc mm) H → va_S (AA g s.heap.size) s.heap H locs → W p l e R s m args below meth c H locs 0 0 Q (F0 m (pc + 3) ls (.int q :: rest))) : W p l e R s m args below meth c H locs 0 0 Q (F0 m pc ls (.int v1 :: .ref (g.1 0) :: rest)) :=
  x_VI Z hP hS (kX9_fault l g v1 mc mm q hq) (isO_w ck_0) (ci := 9) (by decide) rfl rfl mf_X9_fault mv_X9_fault hlk rfl rfl hsz hro hR hdg kk
theorem dX9_well_0 : decode cX9_well 0 = .ok (.iload_n 1, 1) := by decide +kernel
theorem dX9_well_1 : decode cX9_well 1 = .ok (.aload_n 0, 1) := by decide +kernel
theorem dX9_well_2 : decode cX9_well 2 = .ok (.getfield 21, 3) := by decide +kernel
theorem dX9_well_5 : decode cX9_well 5 = .ok (.getfield 119, 3) := by decide +kernel
theorem dX9_well_8 : decode cX9_well 8 = .ok (.invokestatic 101, 3) := by decide +kernel
theorem dX9_well_11 : decode cX9_well 11 = .ok (.ifCond .eq 11, 3) := by decide +kernel
theorem dX9_well_14 : decode cX9_well 14 = .ok (.iload_n 2, 1) := by decide +kernel
theorem dX9_well_15 : decode cX9_well 15 = .ok (.iconst 4, 1) := by decide +kernel
theorem dX9_well_16 : decode cX9_well 16 = .ok (.invokestatic 101, 3) := by decide +kernel
theorem dX9_well_19 : decode cX9_well 19 = .ok (.ifCond .ne 6, 3) := by decide +kernel
theorem dX9_well_22 : decode cX9_well 22 = .ok (.bipush (-2), 2) := by decide +kernel
theorem dX9_well_24 : decode cX9_well 24 = .ok (.ireturn, 1) := by decide +kernel
theorem dX9_well_25 : decode cX9_well 25 = .ok (.iload_n 2, 1) := by decide +kernel
theorem dX9_well_26 : decode cX9_well 26 = .ok (.tableswitch 56 0 2 #[26, 36, 46], 26) := by decide +kernel
theorem dX9_well_52 : decode cX9_well 52 = .ok (.aload_n 0, 1) := by decide +kernel
theorem dX9_well_53 : decode cX9_well 53 = .ok (.getfield 21, 3) := by decide +kernel
theorem dX9_well_56 : decode cX9_well 56 = .ok (.getfield 122, 3) := by decide +kernel
theorem dX9_well_59 : decode cX9_well 59 = .ok (.iload_n 1, 1) := by decide +kernel
theorem dX9_well_60 : decode cX9_well 60 = .ok (.iaload, 1) := by decide +kernel
theorem dX9_well_61 : decode cX9_well 61 = .ok (.ireturn, 1) := by decide +kernel
theorem dX9_well_62 : decode cX9_well 62 = .ok (.aload_n 0, 1) := by decide +kernel
theorem dX9_well_63 : decode cX9_well 63 = .ok (.getfield 21, 3) := by decide +kernel
theorem dX9_well_66 : decode cX9_well 66 = .ok (.getfield 125, 3) := by decide +kernel
theorem dX9_well_69 : decode cX9_well 69 = .ok (.iload_n 1, 1) := by decide +kernel
theorem dX9_well_70 : decode cX9_well 70 = .ok (.iaload, 1) := by decide +kernel
theorem dX9_well_71 : decode cX9_well 71 = .ok (.ireturn, 1) := by decide +kernel
theorem dX9_well_72 : decode cX9_well 72 = .ok (.aload_n 0, 1) := by decide +kernel
theorem dX9_well_73 : decode cX9_well 73 = .ok (.getfield 21, 3) := by decide +kernel
theorem dX9_well_76 : decode cX9_well 76 = .ok (.getfield 128, 3) := by decide +kernel
theorem dX9_well_79 : decode cX9_well 79 = .ok (.iload_n 1, 1) := by decide +kernel
theorem dX9_well_80 : decode cX9_well 80 = .ok (.iaload, 1) := by decide +kernel
theorem dX9_well_81 : decode cX9_well 81 = .ok (.ireturn, 1) := by decide +kernel
theorem dX9_well_82 : decode cX9_well 82 = .ok (.aload_n 0, 1) := by decide +kernel
theorem dX9_well_83 : decode cX9_well 83 = .ok (.getfield 21, 3) := by decide +kernel
theorem dX9_well_86 : decode cX9_well 86 = .ok (.getfield 131, 3) := by decide +kernel
theorem dX9_well_89 : decode cX9_well 89 = .ok (.iload_n 1, 1) := by decide +kernel
theorem dX9_well_90 : decode cX9_well 90 = .ok (.iaload, 1) := by decide +kernel
theorem dX9_well_91 : decode cX9_well 91 = .ok (.ireturn, 1) := by decide +kernel
noncomputable def F9_well (v1 : Int32) (v2 : Int32) (mc : Mem) : Option (Int32) :=
  ((F9_in v1 (mc 6 4)).bind (fun q7 => (if q7 = (0 : Int32) then some (-2 : Int32) else ((F9_in v2 (4 : Int32)).bind (fun q8 => (if q8 = (0 : Int32) then some (-2 : Int32) else (if v2 = (0 : Int32) then (ck v1 8 (some (mc 7 v1.toNatClampNeg))) else (if v2 = (1 : Int32) then (ck v1 8 (some (mc 8 v1.toNatClampNeg))) else (if v2 = (2 : Int32) then (ck v1 8 (some (mc 9 v1.toNatClampNeg))) else (ck v1 8 (some (mc 10 v1.toNatClampNeg))))))))))))
set_option maxHeartbeats 4000000 in
set_option maxRecDepth 100000 in
theorem kX9_well (l : Launch) (g : GG) (v1 : Int32) (v2 : Int32) (mc mm : Mem) (q : Int32) (hF : F9_well v1 v2 mc = some q) : KI l yX9_well cX9_well 3 .int 1 21 g [.ref (g.1 0), .int v1, .int v2] mc mm q (mc, mm) := by
  intro sz
  refine x_start (Qc := fun z => QI g z q (mc, mm)) (by decide +kernel) (Nat.le_of_ble_eq_true rfl) ?_ sz
  intro p e s m args below meth c ls Z hr hlk hP hl
  have hx := Z.1.1
  have hb := Z.1.2.1
  have hown := Z.1.2.2.2.1
  have hts := Z.1.2.2.2.2
  have hS : va_S (AA g s.heap.size) s.heap s.heap [] := va_S.rf
  have hl : lv_has ls 3 [(0, .ref (g.1 0)), (1, .int v1), (2, .int v2)] := hl
  unfold F9_well at hF
  refine lv_iload_n hx hb dX9_well_0 rfl (lv_at hl 1 rfl) ?_
  refine lv_aload_n hx hb dX9_well_1 rfl (lv_at hl 0 rfl) ?_
  refine gf9_1 Z hP wd_1_19 dX9_well_2 ?_
  refine gf8_4N Z hP ck_6 nf_2 dX9_well_5 ?_
  obtain ⟨q7, hq7, hF⟩ := bd_ok hF
  refine xX9_in Z hP hS hq7 wd_7_7 hl.1 (Nat.le_of_ble_eq_true rfl) ⟨Nat.le_of_ble_eq_true rfl, Nat.le_of_ble_eq_true rfl⟩ dX9_well_8 (fun H locs hP hS => ?_)
  refine lv_if_eq (tgt := 22) hx hb dX9_well_11 rfl (fun hc => ?_) (fun hc => ?_)
  · have hF := (if_pos hc).symm.trans hF
    refine lv_bipush (v := (-2 : Int32)) hx hb dX9_well_22 bp_m2 ?_
    exact ret_I Z hr hlk hP hS hF dX9_well_24
  · have hF := (if_neg hc).symm.trans hF
    refine lv_iload_n hx hb dX9_well_14 rfl (lv_at hl 2 rfl) ?_
    refine lv_iconst (v := (4 : Int32)) hx hb dX9_well_15 ic_4 ?_
    obtain ⟨q8, hq8, hF⟩ := bd_ok hF
    refine xX9_in Z hP hS hq8 wd_7_7 hl.1 (Nat.le_of_ble_eq_true rfl) ⟨Nat.le_of_ble_eq_true rfl, Nat.le_of_ble_eq_true rfl⟩ dX9_well_16 (fun H locs hP hS => ?_)
    refine lv_if_ne (tgt := 25) hx hb dX9_well_19 rfl (fun hc => ?_) (fun hc => ?_)
    · have hF := (if_neg hc).symm.trans hF
      refine lv_iload_n hx hb dX9_well_25 rfl (lv_at hl 2 rfl) ?_
      by_cases hc9 : v2 = (0 : Int32)
      · have hF := (if_pos hc9).symm.trans hF
        refine lv_tableIn (off := 26) (tgt := 52) hx hb dX9_well_26 (by rw [hc9]; decide) (by rw [hc9]; decide) (by rw [hc9]; rfl) rfl ?_
        refine lv_aload_n hx hb dX9_well_52 rfl (lv_at hl 0 rfl) ?_
        refine gf9_1 Z hP wd_1_19 dX9_well_53 ?_
        refine gf8_0N Z hP ck_6 nf_3 dX9_well_56 ?_
        refine lv_iload_n hx hb dX9_well_59 rfl (lv_at hl 1 rfl) ?_
        obtain ⟨hi10, hF⟩ := ck_ok hF
        refine ra_ld Z hP (ia_8_0 ck_6) hi10 dX9_well_60 ?_
        exact ret_I Z hr hlk hP hS hF dX9_well_61
      have hF := (if_neg hc9).symm.trans hF
      by_cases hc11 : v2 = (1 : Int32)
      · have hF := (if_pos hc11).symm.trans hF
        refine lv_tableIn (off := 36) (tgt := 62) hx hb dX9_well_26 (by rw [hc11]; decide) (by rw [hc11]; decide) (by rw [hc11]; rfl) rfl ?_
        refine lv_aload_n hx hb dX9_well_62 rfl (lv_at hl 0 rfl) ?_
        refine gf9_1 Z hP wd_1_19 dX9_well_63 ?_
        refine gf8_1N Z hP ck_6 nf_4 dX9_well_66 ?_
        refine lv_iload_n hx hb dX9_well_69 rfl (lv_at hl 1 rfl) ?_
        obtain ⟨hi12, hF⟩ := ck_ok hF
        refine ra_ld Z hP (ia_8_1 ck_6) hi12 dX9_well_70 ?_
        exact ret_I Z hr hlk hP hS hF dX9_well_71
      have hF := (if_neg hc11).symm.trans hF
      by_cases hc13 : v2 = (2 : Int32)
      · have hF := (if_pos hc13).symm.trans hF
        refine lv_tableIn (off := 46) (tgt := 72) hx hb dX9_well_26 (by rw [hc13]; decide) (by rw [hc13]; decide) (by rw [hc13]; rfl) rfl ?_
        refine lv_aload_n hx hb dX9_well_72 rfl (lv_at hl 0 rfl) ?_
        refine gf9_1 Z hP wd_1_19 dX9_well_73 ?_
        refine gf8_2N Z hP ck_6 nf_5 dX9_well_76 ?_
        refine lv_iload_n hx hb dX9_well_79 rfl (lv_at hl 1 rfl) ?_
        obtain ⟨hi14, hF⟩ := ck_ok hF
        refine ra_ld Z hP (ia_8_2 ck_6) hi14 dX9_well_80 ?_
        exact ret_I Z hr hlk hP hS hF dX9_well_81
      have hF := (if_neg hc13).symm.trans hF
      refine lv_tableOut (tgt := 82) hx hb dX9_well_26 (sw_3 hc9 hc11 hc13) rfl ?_
      refine lv_aload_n hx hb dX9_well_82 rfl (lv_at hl 0 rfl) ?_
      refine gf9_1 Z hP wd_1_19 dX9_well_83 ?_
      refine gf8_3N Z hP ck_6 nf_6 dX9_well_86 ?_
      refine lv_iload_n hx hb dX9_well_89 rfl (lv_at hl 1 rfl) ?_
      obtain ⟨hi15, hF⟩ := ck_ok hF
      refine ra_ld Z hP (ia_8_3 ck_6) hi15 dX9_well_90 ?_
      exact ret_I Z hr hlk hP hS hF dX9_well_91
    · have hF := (if_pos hc).symm.trans hF
      refine lv_bipush (v := (-2 : Int32)) hx hb dX9_well_22 bp_m2 ?_
      exact ret_I Z hr hlk hP hS hF dX9_well_24
theorem xX9_well {p : Program} {l : Launch} {e : Env} {R : Room} {s : State} {m : MethodId} {args : Array Value} {below : List Frame} {meth : Method} {c : Code} {H : Heap} {locs : List Loc} {Q : State → Prop} {cc : ByteArray} {nL : Nat} {own : String} {g : GG} {pc index : Nat} {ls : Array Slot} {rest : List Value} {mc mm : Mem} (Z : ZZ p s m args c cc nL own g) (hP : va_P g.2.2.1 vwCl (wL g mc mm) H) (hS : va_S (AA g s.heap.size) s.heap H locs) {v1 : Int32} {v2 : Int32} {q : Int32} (hq : F9_well v1 v2 mc = some q) (hlk : Cond.methodLink own index yX9_well ∈ wsL_law) (hsz : ls.size = nL) (hro : (rest.map fun v => v.category).sum ≤ 8) (hR : 1 + 1 ≤ R.frames ∧ 8 + (3 + 11) + 21 ≤ R.locals) (hdg : decode cc pc = .ok (.invokevirtual index, 3)) (kk : ∀ (H : Heap) (locs : List Loc), va_P g.2.2.1 vwCl (wL g mc mm) H → va_S (AA g s.heap.size) s.heap H locs → W p l e R s m args below meth c H locs 0 0 Q (F0 m (pc + 3) ls (.int q :: rest))) : W p l e R s m args below meth c H locs 0 0 Q (F0 m pc ls (.int v2 :: .int v1 :: .ref (g.1 0) :: rest)) :=
  x_VI Z hP hS (kX9_well l g v1 v2 mc mm q hq) (isO_w ck_0) (ci := 9) (by decide) rfl rfl mf_X9_well mv_X9_well hlk rfl rfl hsz hro hR hdg kk
theorem dX9_saying_0 : decode cX9_saying 0 = .ok (.iload_n 1, 1) := by decide +kernel
theorem dX9_saying_1 : decode cX9_saying 1 = .ok (.aload_n 0, 1) := by decide +kernel
theorem dX9_saying_2 : decode cX9_saying 2 = .ok (.getfield 28, 3) := by decide +kernel
theorem dX9_saying_5 : decode cX9_saying 5 = .ok (.getfield 134, 3) := by decide +kernel
theorem dX9_saying_8 : decode cX9_saying 8 = .ok (.invokestatic 101, 3) := by decide +kernel
theorem dX9_saying_11 : decode cX9_saying 11 = .ok (.ifCond .eq 12, 3) := by decide +kernel
theorem dX9_saying_14 : decode cX9_saying 14 = .ok (.iload_n 2, 1) := by decide +kernel
theorem dX9_saying_15 : decode cX9_saying 15 = .ok (.bipush 8, 2) := by decide +kernel
theorem dX9_saying_17 : decode cX9_saying 17 = .ok (.invokestatic 101, 3) := by decide +kernel
theorem dX9_saying_20 : decode cX9_saying 20 = .ok (.ifCond .ne 6, 3) := by decide +kernel
theorem dX9_saying_23 : decode cX9_saying 23 = .ok (.bipush (-2), 2) := by decide +kernel
theorem dX9_saying_25 : decode cX9_saying 25 = .ok (.ireturn, 1) := by decide +kernel
theorem dX9_saying_26 : decode cX9_saying 26 = .ok (.iload_n 2, 1) := by decide +kernel
theorem dX9_saying_27 : decode cX9_saying 27 = .ok (.tableswitch 69 0 3 #[29, 39, 49, 59], 29) := by decide +kernel
theorem dX9_saying_56 : decode cX9_saying 56 = .ok (.aload_n 0, 1) := by decide +kernel
theorem dX9_saying_57 : decode cX9_saying 57 = .ok (.getfield 28, 3) := by decide +kernel
theorem dX9_saying_60 : decode cX9_saying 60 = .ok (.getfield 135, 3) := by decide +kernel
theorem dX9_saying_63 : decode cX9_saying 63 = .ok (.iload_n 1, 1) := by decide +kernel
theorem dX9_saying_64 : decode cX9_saying 64 = .ok (.iaload, 1) := by decide +kernel
theorem dX9_saying_65 : decode cX9_saying 65 = .ok (.ireturn, 1) := by decide +kernel
theorem dX9_saying_66 : decode cX9_saying 66 = .ok (.aload_n 0, 1) := by decide +kernel
theorem dX9_saying_67 : decode cX9_saying 67 = .ok (.getfield 28, 3) := by decide +kernel
theorem dX9_saying_70 : decode cX9_saying 70 = .ok (.getfield 138, 3) := by decide +kernel
theorem dX9_saying_73 : decode cX9_saying 73 = .ok (.iload_n 1, 1) := by decide +kernel
theorem dX9_saying_74 : decode cX9_saying 74 = .ok (.iaload, 1) := by decide +kernel
theorem dX9_saying_75 : decode cX9_saying 75 = .ok (.ireturn, 1) := by decide +kernel
theorem dX9_saying_76 : decode cX9_saying 76 = .ok (.aload_n 0, 1) := by decide +kernel
theorem dX9_saying_77 : decode cX9_saying 77 = .ok (.getfield 28, 3) := by decide +kernel
theorem dX9_saying_80 : decode cX9_saying 80 = .ok (.getfield 141, 3) := by decide +kernel
theorem dX9_saying_83 : decode cX9_saying 83 = .ok (.iload_n 1, 1) := by decide +kernel
theorem dX9_saying_84 : decode cX9_saying 84 = .ok (.iaload, 1) := by decide +kernel
theorem dX9_saying_85 : decode cX9_saying 85 = .ok (.ireturn, 1) := by decide +kernel
theorem dX9_saying_86 : decode cX9_saying 86 = .ok (.aload_n 0, 1) := by decide +kernel
theorem dX9_saying_87 : decode cX9_saying 87 = .ok (.getfield 28, 3) := by decide +kernel
theorem dX9_saying_90 : decode cX9_saying 90 = .ok (.getfield 144, 3) := by decide +kernel
theorem dX9_saying_93 : decode cX9_saying 93 = .ok (.iload_n 1, 1) := by decide +kernel
theorem dX9_saying_94 : decode cX9_saying 94 = .ok (.iaload, 1) := by decide +kernel
theorem dX9_saying_95 : decode cX9_saying 95 = .ok (.ireturn, 1) := by decide +kernel
theorem dX9_saying_96 : decode cX9_saying 96 = .ok (.aload_n 0, 1) := by decide +kernel
theorem dX9_saying_97 : decode cX9_saying 97 = .ok (.getfield 28, 3) := by decide +kernel
theorem dX9_saying_100 : decode cX9_saying 100 = .ok (.iload_n 1, 1) := by decide +kernel
theorem dX9_saying_101 : decode cX9_saying 101 = .ok (.iload_n 2, 1) := by decide +kernel
theorem dX9_saying_102 : decode cX9_saying 102 = .ok (.iconst 4, 1) := by decide +kernel
theorem dX9_saying_103 : decode cX9_saying 103 = .ok (.isub, 1) := by decide +kernel
theorem dX9_saying_104 : decode cX9_saying 104 = .ok (.invokevirtual 147, 3) := by decide +kernel
theorem dX9_saying_107 : decode cX9_saying 107 = .ok (.ireturn, 1) := by decide +kernel
noncomputable def F9_saying (v1 : Int32) (v2 : Int32) (mc : Mem) : Option (Int32) :=
  ((F9_in v1 (mc 11 5)).bind (fun q8 => (if q8 = (0 : Int32) then some (-2 : Int32) else ((F9_in v2 (8 : Int32)).bind (fun q9 => (if q9 = (0 : Int32) then some (-2 : Int32) else (if v2 = (0 : Int32) then (ck v1 8 (some (mc 12 v1.toNatClampNeg))) else (if v2 = (1 : Int32) then (ck v1 8 (some (mc 13 v1.toNatClampNeg))) else (if v2 = (2 : Int32) then (ck v1 8 (some (mc 14 v1.toNatClampNeg))) else (if v2 = (3 : Int32) then (ck v1 8 (some (mc 15 v1.toNatClampNeg))) else ((F5_letter 11 v1 (v2 - (4 : Int32)) mc).bind (fun q18 => (some q18)))))))))))))
set_option maxHeartbeats 4000000 in
set_option maxRecDepth 100000 in
theorem kX9_saying (l : Launch) (g : GG) (v1 : Int32) (v2 : Int32) (mc mm : Mem) (q : Int32) (hF : F9_saying v1 v2 mc = some q) : KI l yX9_saying cX9_saying 3 .int 2 43 g [.ref (g.1 0), .int v1, .int v2] mc mm q (mc, mm) := by
  intro sz
  refine x_start (Qc := fun z => QI g z q (mc, mm)) (by decide +kernel) (Nat.le_of_ble_eq_true rfl) ?_ sz
  intro p e s m args below meth c ls Z hr hlk hP hl
  have hx := Z.1.1
  have hb := Z.1.2.1
  have hown := Z.1.2.2.2.1
  have hts := Z.1.2.2.2.2
  have hS : va_S (AA g s.heap.size) s.heap s.heap [] := va_S.rf
  have hl : lv_has ls 3 [(0, .ref (g.1 0)), (1, .int v1), (2, .int v2)] := hl
  unfold F9_saying at hF
  refine lv_iload_n hx hb dX9_saying_0 rfl (lv_at hl 1 rfl) ?_
  refine lv_aload_n hx hb dX9_saying_1 rfl (lv_at hl 0 rfl) ?_
  refine gf9_2 Z hP wd_1_23 dX9_saying_2 ?_
  refine gf5_5N Z hP ck_11 nf_7 dX9_saying_5 ?_
  obtain ⟨q8, hq8, hF⟩ := bd_ok hF
  refine xX9_in Z hP hS hq8 wd_7_7 hl.1 (Nat.le_of_ble_eq_true rfl) ⟨Nat.le_of_ble_eq_true rfl, Nat.le_of_ble_eq_true rfl⟩ dX9_saying_8 (fun H locs hP hS => ?_)
  refine lv_if_eq (tgt := 23) hx hb dX9_saying_11 rfl (fun hc => ?_) (fun hc => ?_)
  · have hF := (if_pos hc).symm.trans hF
    refine lv_bipush (v := (-2 : Int32)) hx hb dX9_saying_23 bp_m2 ?_
    exact ret_I Z hr hlk hP hS hF dX9_saying_25
  · have hF := (if_neg hc).symm.trans hF
    refine lv_iload_n hx hb dX9_saying_14 rfl (lv_at hl 2 rfl) ?_
    refine lv_bipush (v := (8 : Int32)) hx hb dX9_saying_15 bp_8 ?_
    obtain ⟨q9, hq9, hF⟩ := bd_ok hF
    refine xX9_in Z hP hS hq9 wd_7_7 hl.1 (Nat.le_of_ble_eq_true rfl) ⟨Nat.le_of_ble_eq_true rfl, Nat.le_of_ble_eq_true rfl⟩ dX9_saying_17 (fun H locs hP hS => ?_)
    refine lv_if_ne (tgt := 26) hx hb dX9_saying_20 rfl (fun hc => ?_) (fun hc => ?_)
    · have hF := (if_neg hc).symm.trans hF
      refine lv_iload_n hx hb dX9_saying_26 rfl (lv_at hl 2 rfl) ?_
      by_cases hc10 : v2 = (0 : Int32)
      · have hF := (if_pos hc10).symm.trans hF
        refine lv_tableIn (off := 29) (tgt := 56) hx hb dX9_saying_27 (by rw [hc10]; decide) (by rw [hc10]; decide) (by rw [hc10]; rfl) rfl ?_
        refine lv_aload_n hx hb dX9_saying_56 rfl (lv_at hl 0 rfl) ?_
        refine gf9_2 Z hP wd_1_23 dX9_saying_57 ?_
        refine gf5_0N Z hP ck_11 nf_8 dX9_saying_60 ?_
        refine lv_iload_n hx hb dX9_saying_63 rfl (lv_at hl 1 rfl) ?_
        obtain ⟨hi11, hF⟩ := ck_ok hF
        refine ra_ld Z hP (ia_5_0 ck_11) hi11 dX9_saying_64 ?_
        exact ret_I Z hr hlk hP hS hF dX9_saying_65
      have hF := (if_neg hc10).symm.trans hF
      by_cases hc12 : v2 = (1 : Int32)
      · have hF := (if_pos hc12).symm.trans hF
        refine lv_tableIn (off := 39) (tgt := 66) hx hb dX9_saying_27 (by rw [hc12]; decide) (by rw [hc12]; decide) (by rw [hc12]; rfl) rfl ?_
        refine lv_aload_n hx hb dX9_saying_66 rfl (lv_at hl 0 rfl) ?_
        refine gf9_2 Z hP wd_1_23 dX9_saying_67 ?_
        refine gf5_1N Z hP ck_11 nf_9 dX9_saying_70 ?_
        refine lv_iload_n hx hb dX9_saying_73 rfl (lv_at hl 1 rfl) ?_
        obtain ⟨hi13, hF⟩ := ck_ok hF
        refine ra_ld Z hP (ia_5_1 ck_11) hi13 dX9_saying_74 ?_
        exact ret_I Z hr hlk hP hS hF dX9_saying_75
      have hF := (if_neg hc12).symm.trans hF
      by_cases hc14 : v2 = (2 : Int32)
      · have hF := (if_pos hc14).symm.trans hF
        refine lv_tableIn (off := 49) (tgt := 76) hx hb dX9_saying_27 (by rw [hc14]; decide) (by rw [hc14]; decide) (by rw [hc14]; rfl) rfl ?_
        refine lv_aload_n hx hb dX9_saying_76 rfl (lv_at hl 0 rfl) ?_
        refine gf9_2 Z hP wd_1_23 dX9_saying_77 ?_
        refine gf5_2N Z hP ck_11 nf_10 dX9_saying_80 ?_
        refine lv_iload_n hx hb dX9_saying_83 rfl (lv_at hl 1 rfl) ?_
        obtain ⟨hi15, hF⟩ := ck_ok hF
        refine ra_ld Z hP (ia_5_2 ck_11) hi15 dX9_saying_84 ?_
        exact ret_I Z hr hlk hP hS hF dX9_saying_85
      have hF := (if_neg hc14).symm.trans hF
      by_cases hc16 : v2 = (3 : Int32)
      · have hF := (if_pos hc16).symm.trans hF
        refine lv_tableIn (off := 59) (tgt := 86) hx hb dX9_saying_27 (by rw [hc16]; decide) (by rw [hc16]; decide) (by rw [hc16]; rfl) rfl ?_
        refine lv_aload_n hx hb dX9_saying_86 rfl (lv_at hl 0 rfl) ?_
        refine gf9_2 Z hP wd_1_23 dX9_saying_87 ?_
        refine gf5_3N Z hP ck_11 nf_11 dX9_saying_90 ?_
        refine lv_iload_n hx hb dX9_saying_93 rfl (lv_at hl 1 rfl) ?_
        obtain ⟨hi17, hF⟩ := ck_ok hF
        refine ra_ld Z hP (ia_5_3 ck_11) hi17 dX9_saying_94 ?_
        exact ret_I Z hr hlk hP hS hF dX9_saying_95
      have hF := (if_neg hc16).symm.trans hF
      refine lv_tableOut (tgt := 96) hx hb dX9_saying_27 (sw_4 hc10 hc12 hc14 hc16) rfl ?_
      refine lv_aload_n hx hb dX9_saying_96 rfl (lv_at hl 0 rfl) ?_
      refine gf9_2 Z hP wd_1_23 dX9_saying_97 ?_
      refine lv_iload_n hx hb dX9_saying_100 rfl (lv_at hl 1 rfl) ?_
      refine lv_iload_n hx hb dX9_saying_101 rfl (lv_at hl 2 rfl) ?_
      refine lv_iconst (v := (4 : Int32)) hx hb dX9_saying_102 ic_4 ?_
      refine lv_isub hx hb dX9_saying_103 ?_
      obtain ⟨q18, hq18, hF⟩ := bd_ok hF
      refine xX5_letter Z hP hS ck_11 hq18 wd_16_18 hl.1 (Nat.le_of_ble_eq_true rfl) ⟨Nat.le_of_ble_eq_true rfl, Nat.le_of_ble_eq_true rfl⟩ dX9_saying_104 (fun H locs hP hS => ?_)
      exact ret_I Z hr hlk hP hS hF dX9_saying_107
    · have hF := (if_pos hc).symm.trans hF
      refine lv_bipush (v := (-2 : Int32)) hx hb dX9_saying_23 bp_m2 ?_
      exact ret_I Z hr hlk hP hS hF dX9_saying_25
theorem xX9_saying {p : Program} {l : Launch} {e : Env} {R : Room} {s : State} {m : MethodId} {args : Array Value} {below : List Frame} {meth : Method} {c : Code} {H : Heap} {locs : List Loc} {Q : State → Prop} {cc : ByteArray} {nL : Nat} {own : String} {g : GG} {pc index : Nat} {ls : Array Slot} {rest : List Value} {mc mm : Mem} (Z : ZZ p s m args c cc nL own g) (hP : va_P g.2.2.1 vwCl (wL g mc mm) H) (hS : va_S (AA g s.heap.size) s.heap H locs) {v1 : Int32} {v2 : Int32} {q : Int32} (hq : F9_saying v1 v2 mc = some q) (hlk : Cond.methodLink own index yX9_saying ∈ wsL_law) (hsz : ls.size = nL) (hro : (rest.map fun v => v.category).sum ≤ 8) (hR : 2 + 1 ≤ R.frames ∧ 8 + (3 + 11) + 43 ≤ R.locals) (hdg : decode cc pc = .ok (.invokevirtual index, 3)) (kk : ∀ (H : Heap) (locs : List Loc), va_P g.2.2.1 vwCl (wL g mc mm) H → va_S (AA g s.heap.size) s.heap H locs → W p l e R s m args below meth c H locs 0 0 Q (F0 m (pc + 3) ls (.int q :: rest))) : W p l e R s m args below meth c H locs 0 0 Q (F0 m pc ls (.int v2 :: .int v1 :: .ref (g.1 0) :: rest)) :=
  x_VI Z hP hS (kX9_saying l g v1 v2 mc mm q hq) (isO_w ck_0) (ci := 9) (by decide) rfl rfl mf_X9_saying mv_X9_saying hlk rfl rfl hsz hro hR hdg kk
theorem dX9_mayBeEvent_0 : decode cX9_mayBeEvent 0 = .ok (.iload_n 0, 1) := by decide +kernel
theorem dX9_mayBeEvent_1 : decode cX9_mayBeEvent 1 = .ok (.iconst 3, 1) := by decide +kernel
theorem dX9_mayBeEvent_2 : decode cX9_mayBeEvent 2 = .ok (.invokestatic 101, 3) := by decide +kernel
theorem dX9_mayBeEvent_5 : decode cX9_mayBeEvent 5 = .ok (.ifCond .eq 25, 3) := by decide +kernel
theorem dX9_mayBeEvent_8 : decode cX9_mayBeEvent 8 = .ok (.iload_n 1, 1) := by decide +kernel
theorem dX9_mayBeEvent_9 : decode cX9_mayBeEvent 9 = .ok (.bipush 40, 2) := by decide +kernel
theorem dX9_mayBeEvent_11 : decode cX9_mayBeEvent 11 = .ok (.invokestatic 101, 3) := by decide +kernel
theorem dX9_mayBeEvent_14 : decode cX9_mayBeEvent 14 = .ok (.ifCond .eq 16, 3) := by decide +kernel
theorem dX9_mayBeEvent_17 : decode cX9_mayBeEvent 17 = .ok (.iload_n 2, 1) := by decide +kernel
theorem dX9_mayBeEvent_18 : decode cX9_mayBeEvent 18 = .ok (.bipush 8, 2) := by decide +kernel
theorem dX9_mayBeEvent_20 : decode cX9_mayBeEvent 20 = .ok (.invokestatic 101, 3) := by decide +kernel
theorem dX9_mayBeEvent_23 : decode cX9_mayBeEvent 23 = .ok (.ifCond .eq 7, 3) := by decide +kernel
theorem dX9_mayBeEvent_26 : decode cX9_mayBeEvent 26 = .ok (.iconst 1, 1) := by decide +kernel
theorem dX9_mayBeEvent_27 : decode cX9_mayBeEvent 27 = .ok (.goto 4, 3) := by decide +kernel
theorem dX9_mayBeEvent_30 : decode cX9_mayBeEvent 30 = .ok (.iconst 0, 1) := by decide +kernel
theorem dX9_mayBeEvent_31 : decode cX9_mayBeEvent 31 = .ok (.ireturn, 1) := by decide +kernel
noncomputable def F9_mayBeEvent_b30 (v0 : Int32) (v1 : Int32) (v2 : Int32) : Option (Int32) :=
  some (0 : Int32)
noncomputable def F9_mayBeEvent (v0 : Int32) (v1 : Int32) (v2 : Int32) : Option (Int32) :=
  ((F9_in v0 (3 : Int32)).bind (fun q4 => (if q4 = (0 : Int32) then (F9_mayBeEvent_b30 v0 v1 v2) else ((F9_in v1 (40 : Int32)).bind (fun q5 => (if q5 = (0 : Int32) then (F9_mayBeEvent_b30 v0 v1 v2) else ((F9_in v2 (8 : Int32)).bind (fun q6 => (if q6 = (0 : Int32) then (F9_mayBeEvent_b30 v0 v1 v2) else some (1 : Int32))))))))))
set_option maxHeartbeats 4000000 in
set_option maxRecDepth 100000 in
theorem kX9_mayBeEvent (l : Launch) (g : GG) (v0 : Int32) (v1 : Int32) (v2 : Int32) (mc mm : Mem) (q : Int32) (hF : F9_mayBeEvent v0 v1 v2 = some q) : KI l yX9_mayBeEvent cX9_mayBeEvent 3 .boolean 1 21 g [.int v0, .int v1, .int v2] mc mm q (mc, mm) := by
  intro sz
  refine x_start (Qc := fun z => QI g z q (mc, mm)) (by decide +kernel) (Nat.le_of_ble_eq_true rfl) ?_ sz
  intro p e s m args below meth c ls Z hr hlk hP hl
  have hx := Z.1.1
  have hb := Z.1.2.1
  have hown := Z.1.2.2.2.1
  have hts := Z.1.2.2.2.2
  have hS : va_S (AA g s.heap.size) s.heap s.heap [] := va_S.rf
  have hl : lv_has ls 3 [(0, .int v0), (1, .int v1), (2, .int v2)] := hl
  unfold F9_mayBeEvent at hF
  have hb30 : F9_mayBeEvent_b30 v0 v1 v2 = some q → ∀ (H : Heap) (locs : List Loc) (ls : Array Slot), lv_has ls 3 [] → va_P g.2.2.1 vwCl (wL g mc mm) H → va_S (AA g s.heap.size) s.heap H locs → W p l e { frames := 1, cells := 0, slots := 0, locals := 21 } s m args below meth c H locs 0 0 (MQ below (QI g s.heap.size q (mc, mm)) args s 0 0 (AA g s.heap.size)) (F0 m 30 ls []) := by
    intro hF H locs ls hl hP hS
    unfold F9_mayBeEvent_b30 at hF
    refine lv_iconst (v := (0 : Int32)) hx hb dX9_mayBeEvent_30 ic_0 ?_
    exact ret_Z Z hr hlk hP hS (Or.inl rfl) hF dX9_mayBeEvent_31
  refine lv_iload_n hx hb dX9_mayBeEvent_0 rfl (lv_at hl 0 rfl) ?_
  refine lv_iconst (v := (3 : Int32)) hx hb dX9_mayBeEvent_1 ic_3 ?_
  obtain ⟨q4, hq4, hF⟩ := bd_ok hF
  refine xX9_in Z hP hS hq4 wd_7_7 hl.1 (Nat.le_of_ble_eq_true rfl) ⟨Nat.le_of_ble_eq_true rfl, Nat.le_of_ble_eq_true rfl⟩ dX9_mayBeEvent_2 (fun H locs hP hS => ?_)
  refine lv_if_eq (tgt := 30) hx hb dX9_mayBeEvent_5 rfl (fun hc => ?_) (fun hc => ?_)
  · have hF := (if_pos hc).symm.trans hF
    exact hb30  hF _ _ _ (lv_sub hl [] rfl) hP hS
  · have hF := (if_neg hc).symm.trans hF
    refine lv_iload_n hx hb dX9_mayBeEvent_8 rfl (lv_at hl 1 rfl) ?_
    refine lv_bipush (v := (40 : Int32)) hx hb dX9_mayBeEvent_9 bp_40 ?_
    obtain ⟨q5, hq5, hF⟩ := bd_ok hF
    refine xX9_in Z hP hS hq5 wd_7_7 hl.1 (Nat.le_of_ble_eq_true rfl) ⟨Nat.le_of_ble_eq_true rfl, Nat.le_of_ble_eq_true rfl⟩ dX9_mayBeEvent_11 (fun H locs hP hS => ?_)
    refine lv_if_eq (tgt := 30) hx hb dX9_mayBeEvent_14 rfl (fun hc => ?_) (fun hc => ?_)
    · have hF := (if_pos hc).symm.trans hF
      exact hb30  hF _ _ _ (lv_sub hl [] rfl) hP hS
    · have hF := (if_neg hc).symm.trans hF
      refine lv_iload_n hx hb dX9_mayBeEvent_17 rfl (lv_at hl 2 rfl) ?_
      refine lv_bipush (v := (8 : Int32)) hx hb dX9_mayBeEvent_18 bp_8 ?_
      obtain ⟨q6, hq6, hF⟩ := bd_ok hF
      refine xX9_in Z hP hS hq6 wd_7_7 hl.1 (Nat.le_of_ble_eq_true rfl) ⟨Nat.le_of_ble_eq_true rfl, Nat.le_of_ble_eq_true rfl⟩ dX9_mayBeEvent_20 (fun H locs hP hS => ?_)
      refine lv_if_eq (tgt := 30) hx hb dX9_mayBeEvent_23 rfl (fun hc => ?_) (fun hc => ?_)
      · have hF := (if_pos hc).symm.trans hF
        exact hb30  hF _ _ _ (lv_sub hl [] rfl) hP hS
      · have hF := (if_neg hc).symm.trans hF
        refine lv_iconst (v := (1 : Int32)) hx hb dX9_mayBeEvent_26 ic_1 ?_
        refine lv_goto (tgt := 31) hx hb dX9_mayBeEvent_27 rfl ?_
        exact ret_Z Z hr hlk hP hS (Or.inr rfl) hF dX9_mayBeEvent_31
theorem xX9_mayBeEvent {p : Program} {l : Launch} {e : Env} {R : Room} {s : State} {m : MethodId} {args : Array Value} {below : List Frame} {meth : Method} {c : Code} {H : Heap} {locs : List Loc} {Q : State → Prop} {cc : ByteArray} {nL : Nat} {own : String} {g : GG} {pc index : Nat} {ls : Array Slot} {rest : List Value} {mc mm : Mem} (Z : ZZ p s m args c cc nL own g) (hP : va_P g.2.2.1 vwCl (wL g mc mm) H) (hS : va_S (AA g s.heap.size) s.heap H locs) {v0 : Int32} {v1 : Int32} {v2 : Int32} {q : Int32} (hq : F9_mayBeEvent v0 v1 v2 = some q) (hlk : Cond.methodLink own index yX9_mayBeEvent ∈ wsL_law) (hsz : ls.size = nL) (hro : (rest.map fun v => v.category).sum ≤ 8) (hR : 1 + 1 ≤ R.frames ∧ 8 + (3 + 11) + 21 ≤ R.locals) (hdg : decode cc pc = .ok (.invokestatic index, 3)) (kk : ∀ (H : Heap) (locs : List Loc), va_P g.2.2.1 vwCl (wL g mc mm) H → va_S (AA g s.heap.size) s.heap H locs → W p l e R s m args below meth c H locs 0 0 Q (F0 m (pc + 3) ls (.int q :: rest))) : W p l e R s m args below meth c H locs 0 0 Q (F0 m pc ls (.int v2 :: .int v1 :: .int v0 :: rest)) :=
  x_SI Z hP hS (kX9_mayBeEvent l g v0 v1 v2 mc mm q hq) mf_X9_mayBeEvent wd_17_16 hlk rfl rfl hsz hro hR hdg kk
theorem dX9_event_0 : decode cX9_event 0 = .ok (.iload_n 1, 1) := by decide +kernel
theorem dX9_event_1 : decode cX9_event 1 = .ok (.iload_n 2, 1) := by decide +kernel
theorem dX9_event_2 : decode cX9_event 2 = .ok (.iload_n 3, 1) := by decide +kernel
theorem dX9_event_3 : decode cX9_event 3 = .ok (.invokestatic 151, 3) := by decide +kernel
theorem dX9_event_6 : decode cX9_event 6 = .ok (.ifCond .ne 6, 3) := by decide +kernel
theorem dX9_event_9 : decode cX9_event 9 = .ok (.bipush (-2), 2) := by decide +kernel
theorem dX9_event_11 : decode cX9_event 11 = .ok (.ireturn, 1) := by decide +kernel
theorem dX9_event_12 : decode cX9_event 12 = .ok (.aload_n 0, 1) := by decide +kernel
theorem dX9_event_13 : decode cX9_event 13 = .ok (.getfield 35, 3) := by decide +kernel
theorem dX9_event_16 : decode cX9_event 16 = .ok (.iload_n 1, 1) := by decide +kernel
theorem dX9_event_17 : decode cX9_event 17 = .ok (.iload_n 2, 1) := by decide +kernel
theorem dX9_event_18 : decode cX9_event 18 = .ok (.iload_n 3, 1) := by decide +kernel
theorem dX9_event_19 : decode cX9_event 19 = .ok (.invokevirtual 155, 3) := by decide +kernel
theorem dX9_event_22 : decode cX9_event 22 = .ok (.ifCond .ne 6, 3) := by decide +kernel
theorem dX9_event_25 : decode cX9_event 25 = .ok (.bipush (-4), 2) := by decide +kernel
theorem dX9_event_27 : decode cX9_event 27 = .ok (.ireturn, 1) := by decide +kernel
theorem dX9_event_28 : decode cX9_event 28 = .ok (.aload_n 0, 1) := by decide +kernel
theorem dX9_event_29 : decode cX9_event 29 = .ok (.invokevirtual 157, 3) := by decide +kernel
theorem dX9_event_32 : decode cX9_event 32 = .ok (.aload_n 0, 1) := by decide +kernel
theorem dX9_event_33 : decode cX9_event 33 = .ok (.getfield 35, 3) := by decide +kernel
theorem dX9_event_36 : decode cX9_event 36 = .ok (.getfield 160, 3) := by decide +kernel
theorem dX9_event_39 : decode cX9_event 39 = .ok (.ireturn, 1) := by decide +kernel
noncomputable def F9_event (v1 : Int32) (v2 : Int32) (v3 : Int32) (mc : Mem) : Option (Int32 × Mem) :=
  ((F9_mayBeEvent v1 v2 v3).bind (fun q4 => (if q4 = (0 : Int32) then some ((-2 : Int32), mc) else ((F2_add 17 v1 v2 v3 mc).bind (fun q5 => (if q5.1 = (0 : Int32) then some ((-4 : Int32), q5.2) else ((F9_changed q5.2).bind (fun q6 => (some ((q6 17 3), q6))))))))))
set_option maxHeartbeats 4000000 in
set_option maxRecDepth 100000 in
theorem kX9_event (l : Launch) (g : GG) (v1 : Int32) (v2 : Int32) (v3 : Int32) (mc mm : Mem) (q : Int32 × Mem) (hF : F9_event v1 v2 v3 mc = some q) : KI l yX9_event cX9_event 4 .int 2 43 g [.ref (g.1 0), .int v1, .int v2, .int v3] mc mm q.1 (q.2, mm) := by
  intro sz
  refine x_start (Qc := fun z => QI g z q.1 (q.2, mm)) (by decide +kernel) (Nat.le_of_ble_eq_true rfl) ?_ sz
  intro p e s m args below meth c ls Z hr hlk hP hl
  have hx := Z.1.1
  have hb := Z.1.2.1
  have hown := Z.1.2.2.2.1
  have hts := Z.1.2.2.2.2
  have hS : va_S (AA g s.heap.size) s.heap s.heap [] := va_S.rf
  have hl : lv_has ls 4 [(0, .ref (g.1 0)), (1, .int v1), (2, .int v2), (3, .int v3)] := hl
  unfold F9_event at hF
  refine lv_iload_n hx hb dX9_event_0 rfl (lv_at hl 1 rfl) ?_
  refine lv_iload_n hx hb dX9_event_1 rfl (lv_at hl 2 rfl) ?_
  refine lv_iload_n hx hb dX9_event_2 rfl (lv_at hl 3 rfl) ?_
  obtain ⟨q4, hq4, hF⟩ := bd_ok hF
  refine xX9_mayBeEvent Z hP hS hq4 wd_17_15 hl.1 (Nat.le_of_ble_eq_true rfl) ⟨Nat.le_of_ble_eq_true rfl, Nat.le_of_ble_eq_true rfl⟩ dX9_event_3 (fun H locs hP hS => ?_)
  refine lv_if_ne (tgt := 12) hx hb dX9_event_6 rfl (fun hc => ?_) (fun hc => ?_)
  · have hF := (if_neg hc).symm.trans hF
    refine lv_aload_n hx hb dX9_event_12 rfl (lv_at hl 0 rfl) ?_
    refine gf9_3 Z hP wd_2_3 dX9_event_13 ?_
    refine lv_iload_n hx hb dX9_event_16 rfl (lv_at hl 1 rfl) ?_
    refine lv_iload_n hx hb dX9_event_17 rfl (lv_at hl 2 rfl) ?_
    refine lv_iload_n hx hb dX9_event_18 rfl (lv_at hl 3 rfl) ?_
    obtain ⟨q5, hq5, hF⟩ := bd_ok hF
    refine xX2_add Z hP hS ck_17 hq5 wd_17_18 hl.1 (Nat.le_of_ble_eq_true rfl) ⟨Nat.le_of_ble_eq_true rfl, Nat.le_of_ble_eq_true rfl⟩ dX9_event_19 (fun H locs hP hS => ?_)
    refine lv_if_ne (tgt := 28) hx hb dX9_event_22 rfl (fun hc => ?_) (fun hc => ?_)
    · have hF := (if_neg hc).symm.trans hF
      refine lv_aload_n hx hb dX9_event_28 rfl (lv_at hl 0 rfl) ?_
      obtain ⟨q6, hq6, hF⟩ := bd_ok hF
      refine xX9_changed Z hP hS hq6 wd_12_20 hl.1 (Nat.le_of_ble_eq_true rfl) ⟨Nat.le_of_ble_eq_true rfl, Nat.le_of_ble_eq_true rfl⟩ dX9_event_29 (fun H locs hP hS => ?_)
      refine lv_aload_n hx hb dX9_event_32 rfl (lv_at hl 0 rfl) ?_
      refine gf9_3 Z hP wd_2_3 dX9_event_33 ?_
      refine gf2_3N Z hP ck_17 nf_12 dX9_event_36 ?_
      exact ret_IWC Z hr hlk hP hS hF dX9_event_39
    · have hF := (if_pos hc).symm.trans hF
      refine lv_bipush (v := (-4 : Int32)) hx hb dX9_event_25 bp_m4 ?_
      exact ret_IWC Z hr hlk hP hS hF dX9_event_27
  · have hF := (if_pos hc).symm.trans hF
    refine lv_bipush (v := (-2 : Int32)) hx hb dX9_event_9 bp_m2 ?_
    exact ret_IWC Z hr hlk hP hS hF dX9_event_11
theorem xX9_event {p : Program} {l : Launch} {e : Env} {R : Room} {s : State} {m : MethodId} {args : Array Value} {below : List Frame} {meth : Method} {c : Code} {H : Heap} {locs : List Loc} {Q : State → Prop} {cc : ByteArray} {nL : Nat} {own : String} {g : GG} {pc index : Nat} {ls : Array Slot} {rest : List Value} {mc mm : Mem} (Z : ZZ p s m args c cc nL own g) (hP : va_P g.2.2.1 vwCl (wL g mc mm) H) (hS : va_S (AA g s.heap.size) s.heap H locs) {v1 : Int32} {v2 : Int32} {v3 : Int32} {q : Int32 × Mem} (hq : F9_event v1 v2 v3 mc = some q) (hlk : Cond.methodLink own index yX9_event ∈ wsL_law) (hsz : ls.size = nL) (hro : (rest.map fun v => v.category).sum ≤ 8) (hR : 2 + 1 ≤ R.frames ∧ 8 + (4 + 11) + 43 ≤ R.locals) (hdg : decode cc pc = .ok (.invokevirtual index, 3)) (kk : ∀ (H : Heap) (locs : List Loc), va_P g.2.2.1 vwCl (wL g q.2 mm) H → va_S (AA g s.heap.size) s.heap H locs → W p l e R s m args below meth c H locs 0 0 Q (F0 m (pc + 3) ls (.int q.1 :: rest))) : W p l e R s m args below meth c H locs 0 0 Q (F0 m pc ls (.int v3 :: .int v2 :: .int v1 :: .ref (g.1 0) :: rest)) :=
  x_VI Z hP hS (kX9_event l g v1 v2 v3 mc mm q hq) (isO_w ck_0) (ci := 9) (by decide) rfl rfl mf_X9_event mv_X9_event hlk rfl rfl hsz hro hR hdg kk
theorem dX9_back_0 : decode cX9_back 0 = .ok (.aload_n 0, 1) := by decide +kernel
theorem dX9_back_1 : decode cX9_back 1 = .ok (.getfield 35, 3) := by decide +kernel
theorem dX9_back_4 : decode cX9_back 4 = .ok (.getfield 160, 3) := by decide +kernel
theorem dX9_back_7 : decode cX9_back 7 = .ok (.ifCond .ne 6, 3) := by decide +kernel
theorem dX9_back_10 : decode cX9_back 10 = .ok (.bipush (-3), 2) := by decide +kernel
theorem dX9_back_12 : decode cX9_back 12 = .ok (.ireturn, 1) := by decide +kernel
theorem dX9_back_13 : decode cX9_back 13 = .ok (.aload_n 0, 1) := by decide +kernel
theorem dX9_back_14 : decode cX9_back 14 = .ok (.getfield 35, 3) := by decide +kernel
theorem dX9_back_17 : decode cX9_back 17 = .ok (.dup, 1) := by decide +kernel
theorem dX9_back_18 : decode cX9_back 18 = .ok (.getfield 160, 3) := by decide +kernel
theorem dX9_back_21 : decode cX9_back 21 = .ok (.iconst 1, 1) := by decide +kernel
theorem dX9_back_22 : decode cX9_back 22 = .ok (.isub, 1) := by decide +kernel
theorem dX9_back_23 : decode cX9_back 23 = .ok (.putfield 160, 3) := by decide +kernel
theorem dX9_back_26 : decode cX9_back 26 = .ok (.aload_n 0, 1) := by decide +kernel
theorem dX9_back_27 : decode cX9_back 27 = .ok (.invokevirtual 157, 3) := by decide +kernel
theorem dX9_back_30 : decode cX9_back 30 = .ok (.aload_n 0, 1) := by decide +kernel
theorem dX9_back_31 : decode cX9_back 31 = .ok (.getfield 35, 3) := by decide +kernel
theorem dX9_back_34 : decode cX9_back 34 = .ok (.getfield 160, 3) := by decide +kernel
theorem dX9_back_37 : decode cX9_back 37 = .ok (.ireturn, 1) := by decide +kernel
noncomputable def F9_back (mc : Mem) : Option (Int32 × Mem) :=
  (if (mc 17 3) = (0 : Int32) then some ((-3 : Int32), mc) else (lt (mset mc 17 3 ((mc 17 3) - (1 : Int32))) (fun M3 => ((F9_changed M3).bind (fun q4 => (some ((q4 17 3), q4)))))))
set_option maxHeartbeats 4000000 in
set_option maxRecDepth 100000 in
theorem kX9_back (l : Launch) (g : GG) (mc mm : Mem) (q : Int32 × Mem) (hF : F9_back mc = some q) : KI l yX9_back cX9_back 1 .int 1 20 g [.ref (g.1 0)] mc mm q.1 (q.2, mm) := by
  intro sz
  refine x_start (Qc := fun z => QI g z q.1 (q.2, mm)) (by decide +kernel) (Nat.le_of_ble_eq_true rfl) ?_ sz
  intro p e s m args below meth c ls Z hr hlk hP hl
  have hx := Z.1.1
  have hb := Z.1.2.1
  have hown := Z.1.2.2.2.1
  have hts := Z.1.2.2.2.2
  have hS : va_S (AA g s.heap.size) s.heap s.heap [] := va_S.rf
  have hl : lv_has ls 1 [(0, .ref (g.1 0))] := hl
  unfold F9_back at hF
  refine lv_aload_n hx hb dX9_back_0 rfl (lv_at hl 0 rfl) ?_
  refine gf9_3 Z hP wd_2_3 dX9_back_1 ?_
  refine gf2_3N Z hP ck_17 nf_12 dX9_back_4 ?_
  refine lv_if_ne (tgt := 13) hx hb dX9_back_7 rfl (fun hc => ?_) (fun hc => ?_)
  · have hF := (if_neg hc).symm.trans hF
    refine lv_aload_n hx hb dX9_back_13 rfl (lv_at hl 0 rfl) ?_
    refine gf9_3 Z hP wd_2_3 dX9_back_14 ?_
    refine lv_dup hx hb dX9_back_17 rfl ?_
    refine gf2_3N Z hP ck_17 nf_12 dX9_back_18 ?_
    refine lv_iconst (v := (1 : Int32)) hx hb dX9_back_21 ic_1 ?_
    refine lv_isub hx hb dX9_back_22 ?_
    refine pf2_3N Z hP hS ck_17 nf_12 dX9_back_23 (fun H locs hP hS => ?_)
    refine lv_aload_n hx hb dX9_back_26 rfl (lv_at hl 0 rfl) ?_
    obtain ⟨M3, eM3, hF⟩ := lt_ok hF
    have hP : va_P g.2.2.1 vwCl (wL g M3 mm) H := by rw [eM3]; exact hP
    obtain ⟨q4, hq4, hF⟩ := bd_ok hF
    refine xX9_changed Z hP hS hq4 wd_12_20 hl.1 (Nat.le_of_ble_eq_true rfl) ⟨Nat.le_of_ble_eq_true rfl, Nat.le_of_ble_eq_true rfl⟩ dX9_back_27 (fun H locs hP hS => ?_)
    refine lv_aload_n hx hb dX9_back_30 rfl (lv_at hl 0 rfl) ?_
    refine gf9_3 Z hP wd_2_3 dX9_back_31 ?_
    refine gf2_3N Z hP ck_17 nf_12 dX9_back_34 ?_
    exact ret_IWC Z hr hlk hP hS hF dX9_back_37
  · have hF := (if_pos hc).symm.trans hF
    refine lv_bipush (v := (-3 : Int32)) hx hb dX9_back_10 bp_m3 ?_
    exact ret_IWC Z hr hlk hP hS hF dX9_back_12
theorem xX9_back {p : Program} {l : Launch} {e : Env} {R : Room} {s : State} {m : MethodId} {args : Array Value} {below : List Frame} {meth : Method} {c : Code} {H : Heap} {locs : List Loc} {Q : State → Prop} {cc : ByteArray} {nL : Nat} {own : String} {g : GG} {pc index : Nat} {ls : Array Slot} {rest : List Value} {mc mm : Mem} (Z : ZZ p s m args c cc nL own g) (hP : va_P g.2.2.1 vwCl (wL g mc mm) H) (hS : va_S (AA g s.heap.size) s.heap H locs) {q : Int32 × Mem} (hq : F9_back mc = some q) (hlk : Cond.methodLink own index yX9_back ∈ wsL_law) (hsz : ls.size = nL) (hro : (rest.map fun v => v.category).sum ≤ 8) (hR : 1 + 1 ≤ R.frames ∧ 8 + (1 + 11) + 20 ≤ R.locals) (hdg : decode cc pc = .ok (.invokevirtual index, 3)) (kk : ∀ (H : Heap) (locs : List Loc), va_P g.2.2.1 vwCl (wL g q.2 mm) H → va_S (AA g s.heap.size) s.heap H locs → W p l e R s m args below meth c H locs 0 0 Q (F0 m (pc + 3) ls (.int q.1 :: rest))) : W p l e R s m args below meth c H locs 0 0 Q (F0 m pc ls (.ref (g.1 0) :: rest)) :=
  x_VI Z hP hS (kX9_back l g mc mm q hq) (isO_w ck_0) (ci := 9) (by decide) rfl rfl mf_X9_back mv_X9_back hlk rfl rfl hsz hro hR hdg kk
theorem dX9_finding_0 : decode cX9_finding 0 = .ok (.aload_n 0, 1) := by decide +kernel
theorem dX9_finding_1 : decode cX9_finding 1 = .ok (.iload_n 1, 1) := by decide +kernel
theorem dX9_finding_2 : decode cX9_finding 2 = .ok (.putfield 309, 3) := by decide +kernel
theorem dX9_finding_5 : decode cX9_finding 5 = .ok (.bipush (-10), 2) := by decide +kernel
theorem dX9_finding_7 : decode cX9_finding 7 = .ok (.iload_n 1, 1) := by decide +kernel
theorem dX9_finding_8 : decode cX9_finding 8 = .ok (.isub, 1) := by decide +kernel
theorem dX9_finding_9 : decode cX9_finding 9 = .ok (.ireturn, 1) := by decide +kernel
noncomputable def F9_finding (v1 : Int32) (mc : Mem) : Option (Int32 × Mem) :=
  some (((-10 : Int32) - v1), (mset mc 0 6 v1))
set_option maxHeartbeats 4000000 in
set_option maxRecDepth 100000 in
theorem kX9_finding (l : Launch) (g : GG) (v1 : Int32) (mc mm : Mem) (q : Int32 × Mem) (hF : F9_finding v1 mc = some q) : KI l yX9_finding cX9_finding 2 .int 0 0 g [.ref (g.1 0), .int v1] mc mm q.1 (q.2, mm) := by
  intro sz
  refine x_start (Qc := fun z => QI g z q.1 (q.2, mm)) (by decide +kernel) (Nat.le_of_ble_eq_true rfl) ?_ sz
  intro p e s m args below meth c ls Z hr hlk hP hl
  have hx := Z.1.1
  have hb := Z.1.2.1
  have hown := Z.1.2.2.2.1
  have hts := Z.1.2.2.2.2
  have hS : va_S (AA g s.heap.size) s.heap s.heap [] := va_S.rf
  have hl : lv_has ls 2 [(0, .ref (g.1 0)), (1, .int v1)] := hl
  unfold F9_finding at hF
  refine lv_aload_n hx hb dX9_finding_0 rfl (lv_at hl 0 rfl) ?_
  refine lv_iload_n hx hb dX9_finding_1 rfl (lv_at hl 1 rfl) ?_
  refine pf9_6 Z hP hS wd_19_12 dX9_finding_2 (fun H locs hP hS => ?_)
  refine lv_bipush (v := (-10 : Int32)) hx hb dX9_finding_5 bp_m10 ?_
  refine lv_iload_n hx hb dX9_finding_7 rfl (lv_at hl 1 rfl) ?_
  refine lv_isub hx hb dX9_finding_8 ?_
  exact ret_IWC Z hr hlk hP hS hF dX9_finding_9
theorem xX9_finding {p : Program} {l : Launch} {e : Env} {R : Room} {s : State} {m : MethodId} {args : Array Value} {below : List Frame} {meth : Method} {c : Code} {H : Heap} {locs : List Loc} {Q : State → Prop} {cc : ByteArray} {nL : Nat} {own : String} {g : GG} {pc index : Nat} {ls : Array Slot} {rest : List Value} {mc mm : Mem} (Z : ZZ p s m args c cc nL own g) (hP : va_P g.2.2.1 vwCl (wL g mc mm) H) (hS : va_S (AA g s.heap.size) s.heap H locs) {v1 : Int32} {q : Int32 × Mem} (hq : F9_finding v1 mc = some q) (hlk : Cond.methodLink own index yX9_finding ∈ wsL_law) (hsz : ls.size = nL) (hro : (rest.map fun v => v.category).sum ≤ 8) (hR : 0 + 1 ≤ R.frames ∧ 8 + (2 + 11) + 0 ≤ R.locals) (hdg : decode cc pc = .ok (.invokevirtual index, 3)) (kk : ∀ (H : Heap) (locs : List Loc), va_P g.2.2.1 vwCl (wL g q.2 mm) H → va_S (AA g s.heap.size) s.heap H locs → W p l e R s m args below meth c H locs 0 0 Q (F0 m (pc + 3) ls (.int q.1 :: rest))) : W p l e R s m args below meth c H locs 0 0 Q (F0 m pc ls (.int v1 :: .ref (g.1 0) :: rest)) :=
  x_VI Z hP hS (kX9_finding l g v1 mc mm q hq) (isO_w ck_0) (ci := 9) (by decide) rfl rfl mf_X9_finding mv_X9_finding hlk rfl rfl hsz hro hR hdg kk
