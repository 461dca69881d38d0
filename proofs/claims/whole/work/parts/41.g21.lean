theorem dX10_readsText_0 : decode cX10_readsText 0 = .ok (.iload_n 1, 1) := by decide +kernel
theorem dX10_readsText_1 : decode cX10_readsText 1 = .ok (.ifCond .ne 10, 3) := by decide +kernel
theorem dX10_readsText_4 : decode cX10_readsText 4 = .ok (.aload_n 0, 1) := by decide +kernel
theorem dX10_readsText_5 : decode cX10_readsText 5 = .ok (.invokevirtual 140, 3) := by decide +kernel
theorem dX10_readsText_8 : decode cX10_readsText 8 = .ok (.goto 7, 3) := by decide +kernel
theorem dX10_readsText_11 : decode cX10_readsText 11 = .ok (.aload_n 0, 1) := by decide +kernel
theorem dX10_readsText_12 : decode cX10_readsText 12 = .ok (.invokevirtual 144, 3) := by decide +kernel
theorem dX10_readsText_15 : decode cX10_readsText 15 = .ok (.ireturn, 1) := by decide +kernel
noncomputable def F10_readsText (v1 : Int32) (mm : Mem) : Option (Int32 × Mem) :=
  (if v1 = (0 : Int32) then ((F10_readsWells mm).bind (fun q4 => (some (q4.1, q4.2)))) else ((F10_readsSayings mm).bind (fun q3 => (some (q3.1, q3.2)))))
set_option maxHeartbeats 4000000 in
set_option maxRecDepth 100000 in
theorem kX10_readsText (l : Launch) (g : GG) (v1 : Int32) (mc mm : Mem) (q : Int32 × Mem) (hF : F10_readsText v1 mm = some q) : KI l yX10_readsText cX10_readsText 2 .int 3 72 g [.ref (g.1 108), .int v1] mc mm q.1 (mc, q.2) := by
  intro sz
  refine x_start (Qc := fun z => QI g z q.1 (mc, q.2)) (by decide +kernel) (Nat.le_of_ble_eq_true rfl) ?_ sz
  intro p e s m args below meth c ls Z hr hlk hP hl
  have hx := Z.1.1
  have hb := Z.1.2.1
  have hown := Z.1.2.2.2.1
  have hts := Z.1.2.2.2.2
  have hS : va_S (AA g s.heap.size) s.heap s.heap [] := va_S.rf
  have hl : lv_has ls 2 [(0, .ref (g.1 108)), (1, .int v1)] := hl
  unfold F10_readsText at hF
  refine lv_iload_n hx hb dX10_readsText_0 rfl (lv_at hl 1 rfl) ?_
  refine lv_if_ne (tgt := 11) hx hb dX10_readsText_1 rfl (fun hc => ?_) (fun hc => ?_)
  · have hF := (if_neg hc).symm.trans hF
    refine lv_aload_n hx hb dX10_readsText_11 rfl (lv_at hl 0 rfl) ?_
    obtain ⟨q3, hq3, hF⟩ := bd_ok hF
    refine xX10_readsSayings Z hP hS hq3 wd_15_1 hl.1 (Nat.le_of_ble_eq_true rfl) ⟨Nat.le_of_ble_eq_true rfl, Nat.le_of_ble_eq_true rfl⟩ dX10_readsText_12 (fun H locs hP hS => ?_)
    exact ret_IWM Z hr hlk hP hS hF dX10_readsText_15
  · have hF := (if_pos hc).symm.trans hF
    refine lv_aload_n hx hb dX10_readsText_4 rfl (lv_at hl 0 rfl) ?_
    obtain ⟨q4, hq4, hF⟩ := bd_ok hF
    refine xX10_readsWells Z hP hS hq4 wd_14_15 hl.1 (Nat.le_of_ble_eq_true rfl) ⟨Nat.le_of_ble_eq_true rfl, Nat.le_of_ble_eq_true rfl⟩ dX10_readsText_5 (fun H locs hP hS => ?_)
    refine lv_goto (tgt := 15) hx hb dX10_readsText_8 rfl ?_
    exact ret_IWM Z hr hlk hP hS hF dX10_readsText_15
theorem xX10_readsText {p : Program} {l : Launch} {e : Env} {R : Room} {s : State} {m : MethodId} {args : Array Value} {below : List Frame} {meth : Method} {c : Code} {H : Heap} {locs : List Loc} {Q : State → Prop} {cc : ByteArray} {nL : Nat} {own : String} {g : GG} {pc index : Nat} {ls : Array Slot} {rest : List Value} {mc mm : Mem} (Z : ZZ p s m args c cc nL own g) (hP : va_P g.2.2.1 vwCl (wL g mc mm) H) (hS : va_S (AA g s.heap.size) s.heap H locs) {v1 : Int32} {q : Int32 × Mem} (hq : F10_readsText v1 mm = some q) (hlk : Cond.methodLink own index yX10_readsText ∈ wsL_law) (hsz : ls.size = nL) (hro : (rest.map fun v => v.category).sum ≤ 8) (hR : 3 + 1 ≤ R.frames ∧ 8 + (2 + 11) + 72 ≤ R.locals) (hdg : decode cc pc = .ok (.invokevirtual index, 3)) (kk : ∀ (H : Heap) (locs : List Loc), va_P g.2.2.1 vwCl (wL g mc q.2) H → va_S (AA g s.heap.size) s.heap H locs → W p l e R s m args below meth c H locs 0 0 Q (F0 m (pc + 3) ls (.int q.1 :: rest))) : W p l e R s m args below meth c H locs 0 0 Q (F0 m pc ls (.int v1 :: .ref (g.1 108) :: rest)) :=
  x_VI Z hP hS (kX10_readsText l g v1 mc mm q hq) (mO) (ci := 10) (by decide) rfl rfl mf_X10_readsText mv_X10_readsText hlk rfl rfl hsz hro hR hdg kk
theorem dX10_fault_0 : decode cX10_fault 0 = .ok (.iload_n 1, 1) := by decide +kernel
theorem dX10_fault_1 : decode cX10_fault 1 = .ok (.invokestatic 111, 3) := by decide +kernel
theorem dX10_fault_4 : decode cX10_fault 4 = .ok (.ifCond .eq 11, 3) := by decide +kernel
theorem dX10_fault_7 : decode cX10_fault 7 = .ok (.aload_n 0, 1) := by decide +kernel
theorem dX10_fault_8 : decode cX10_fault 8 = .ok (.iload_n 1, 1) := by decide +kernel
theorem dX10_fault_9 : decode cX10_fault 9 = .ok (.invokevirtual 147, 3) := by decide +kernel
theorem dX10_fault_12 : decode cX10_fault 12 = .ok (.goto 5, 3) := by decide +kernel
theorem dX10_fault_15 : decode cX10_fault 15 = .ok (.bipush (-2), 2) := by decide +kernel
theorem dX10_fault_17 : decode cX10_fault 17 = .ok (.ireturn, 1) := by decide +kernel
noncomputable def F10_fault (v1 : Int32) (mm : Mem) : Option (Int32 × Mem) :=
  ((F10_isTwo v1).bind (fun q3 => (if q3 = (0 : Int32) then some ((-2 : Int32), mm) else ((F10_readsText v1 mm).bind (fun q4 => (some (q4.1, q4.2)))))))
set_option maxHeartbeats 4000000 in
set_option maxRecDepth 100000 in
theorem kX10_fault (l : Launch) (g : GG) (v1 : Int32) (mc mm : Mem) (q : Int32 × Mem) (hF : F10_fault v1 mm = some q) : KI l yX10_fault cX10_fault 2 .int 4 93 g [.ref (g.1 108), .int v1] mc mm q.1 (mc, q.2) := by
  intro sz
  refine x_start (Qc := fun z => QI g z q.1 (mc, q.2)) (by decide +kernel) (Nat.le_of_ble_eq_true rfl) ?_ sz
  intro p e s m args below meth c ls Z hr hlk hP hl
  have hx := Z.1.1
  have hb := Z.1.2.1
  have hown := Z.1.2.2.2.1
  have hts := Z.1.2.2.2.2
  have hS : va_S (AA g s.heap.size) s.heap s.heap [] := va_S.rf
  have hl : lv_has ls 2 [(0, .ref (g.1 108)), (1, .int v1)] := hl
  unfold F10_fault at hF
  refine lv_iload_n hx hb dX10_fault_0 rfl (lv_at hl 1 rfl) ?_
  obtain ⟨q3, hq3, hF⟩ := bd_ok hF
  refine xX10_isTwo Z hP hS hq3 wd_13_5 hl.1 (Nat.le_of_ble_eq_true rfl) ⟨Nat.le_of_ble_eq_true rfl, Nat.le_of_ble_eq_true rfl⟩ dX10_fault_1 (fun H locs hP hS => ?_)
  refine lv_if_eq (tgt := 15) hx hb dX10_fault_4 rfl (fun hc => ?_) (fun hc => ?_)
  · have hF := (if_pos hc).symm.trans hF
    refine lv_bipush (v := (-2 : Int32)) hx hb dX10_fault_15 bp_m2 ?_
    exact ret_IWM Z hr hlk hP hS hF dX10_fault_17
  · have hF := (if_neg hc).symm.trans hF
    refine lv_aload_n hx hb dX10_fault_7 rfl (lv_at hl 0 rfl) ?_
    refine lv_iload_n hx hb dX10_fault_8 rfl (lv_at hl 1 rfl) ?_
    obtain ⟨q4, hq4, hF⟩ := bd_ok hF
    refine xX10_readsText Z hP hS hq4 wd_14_11 hl.1 (Nat.le_of_ble_eq_true rfl) ⟨Nat.le_of_ble_eq_true rfl, Nat.le_of_ble_eq_true rfl⟩ dX10_fault_9 (fun H locs hP hS => ?_)
    refine lv_goto (tgt := 17) hx hb dX10_fault_12 rfl ?_
    exact ret_IWM Z hr hlk hP hS hF dX10_fault_17
theorem xX10_fault {p : Program} {l : Launch} {e : Env} {R : Room} {s : State} {m : MethodId} {args : Array Value} {below : List Frame} {meth : Method} {c : Code} {H : Heap} {locs : List Loc} {Q : State → Prop} {cc : ByteArray} {nL : Nat} {own : String} {g : GG} {pc index : Nat} {ls : Array Slot} {rest : List Value} {mc mm : Mem} (Z : ZZ p s m args c cc nL own g) (hP : va_P g.2.2.1 vwCl (wL g mc mm) H) (hS : va_S (AA g s.heap.size) s.heap H locs) {v1 : Int32} {q : Int32 × Mem} (hq : F10_fault v1 mm = some q) (hlk : Cond.methodLink own index yX10_fault ∈ wsL_law) (hsz : ls.size = nL) (hro : (rest.map fun v => v.category).sum ≤ 8) (hR : 4 + 1 ≤ R.frames ∧ 8 + (2 + 11) + 93 ≤ R.locals) (hdg : decode cc pc = .ok (.invokevirtual index, 3)) (kk : ∀ (H : Heap) (locs : List Loc), va_P g.2.2.1 vwCl (wL g mc q.2) H → va_S (AA g s.heap.size) s.heap H locs → W p l e R s m args below meth c H locs 0 0 Q (F0 m (pc + 3) ls (.int q.1 :: rest))) : W p l e R s m args below meth c H locs 0 0 Q (F0 m pc ls (.int v1 :: .ref (g.1 108) :: rest)) :=
  x_VI Z hP hS (kX10_fault l g v1 mc mm q hq) (mO) (ci := 10) (by decide) rfl rfl mf_X10_fault mv_X10_fault hlk rfl rfl hsz hro hR hdg kk
theorem dX10_isWell_0 : decode cX10_isWell 0 = .ok (.iload_n 1, 1) := by decide +kernel
theorem dX10_isWell_1 : decode cX10_isWell 1 = .ok (.i2l, 1) := by decide +kernel
theorem dX10_isWell_2 : decode cX10_isWell 2 = .ok (.lconst 0, 1) := by decide +kernel
theorem dX10_isWell_3 : decode cX10_isWell 3 = .ok (.aload_n 0, 1) := by decide +kernel
theorem dX10_isWell_4 : decode cX10_isWell 4 = .ok (.getfield 120, 3) := by decide +kernel
theorem dX10_isWell_7 : decode cX10_isWell 7 = .ok (.iconst 1, 1) := by decide +kernel
theorem dX10_isWell_8 : decode cX10_isWell 8 = .ok (.isub, 1) := by decide +kernel
theorem dX10_isWell_9 : decode cX10_isWell 9 = .ok (.i2l, 1) := by decide +kernel
theorem dX10_isWell_10 : decode cX10_isWell 10 = .ok (.invokestatic 83, 3) := by decide +kernel
theorem dX10_isWell_13 : decode cX10_isWell 13 = .ok (.ireturn, 1) := by decide +kernel
noncomputable def F10_isWell (v1 : Int32) (mm : Mem) : Option (Int32) :=
  ((F10_in v1.toInt64 (0 : Int64) (((mm 0 7) - (1 : Int32)).toInt64)).bind (fun q2 => (bz q2 (some q2))))
set_option maxHeartbeats 4000000 in
set_option maxRecDepth 100000 in
theorem kX10_isWell (l : Launch) (g : GG) (v1 : Int32) (mc mm : Mem) (q : Int32) (hF : F10_isWell v1 mm = some q) : KI l yX10_isWell cX10_isWell 2 .boolean 1 25 g [.ref (g.1 108), .int v1] mc mm q (mc, mm) := by
  intro sz
  refine x_start (Qc := fun z => QI g z q (mc, mm)) (by decide +kernel) (Nat.le_of_ble_eq_true rfl) ?_ sz
  intro p e s m args below meth c ls Z hr hlk hP hl
  have hx := Z.1.1
  have hb := Z.1.2.1
  have hown := Z.1.2.2.2.1
  have hts := Z.1.2.2.2.2
  have hS : va_S (AA g s.heap.size) s.heap s.heap [] := va_S.rf
  have hl : lv_has ls 2 [(0, .ref (g.1 108)), (1, .int v1)] := hl
  unfold F10_isWell at hF
  refine lv_iload_n hx hb dX10_isWell_0 rfl (lv_at hl 1 rfl) ?_
  refine lv_i2l (v := v1.toInt64) hx hb dX10_isWell_1 rfl ?_
  refine lv_lconst (v := (0 : Int64)) hx hb dX10_isWell_2 lc_0 ?_
  refine lv_aload_n hx hb dX10_isWell_3 rfl (lv_at hl 0 rfl) ?_
  refine gf10_7 Z hP wd_14_19 dX10_isWell_4 ?_
  refine lv_iconst (v := (1 : Int32)) hx hb dX10_isWell_7 ic_1 ?_
  refine lv_isub hx hb dX10_isWell_8 ?_
  refine lv_i2l (v := ((mm 0 7) - (1 : Int32)).toInt64) hx hb dX10_isWell_9 rfl ?_
  obtain ⟨q2, hq2, hF⟩ := bd_ok hF
  refine xX10_in Z hP hS hq2 wd_13_8 hl.1 (Nat.le_of_ble_eq_true rfl) ⟨Nat.le_of_ble_eq_true rfl, Nat.le_of_ble_eq_true rfl⟩ dX10_isWell_10 (fun H locs hP hS => ?_)
  obtain ⟨hbz, hF⟩ := bz_ok hF
  exact ret_Z Z hr hlk hP hS hbz hF dX10_isWell_13
theorem xX10_isWell {p : Program} {l : Launch} {e : Env} {R : Room} {s : State} {m : MethodId} {args : Array Value} {below : List Frame} {meth : Method} {c : Code} {H : Heap} {locs : List Loc} {Q : State → Prop} {cc : ByteArray} {nL : Nat} {own : String} {g : GG} {pc index : Nat} {ls : Array Slot} {rest : List Value} {mc mm : Mem} (Z : ZZ p s m args c cc nL own g) (hP : va_P g.2.2.1 vwCl (wL g mc mm) H) (hS : va_S (AA g s.heap.size) s.heap H locs) {v1 : Int32} {q : Int32} (hq : F10_isWell v1 mm = some q) (hlk : Cond.methodLink own index yX10_isWell ∈ wsL_law) (hsz : ls.size = nL) (hro : (rest.map fun v => v.category).sum ≤ 8) (hR : 1 + 1 ≤ R.frames ∧ 8 + (2 + 11) + 25 ≤ R.locals) (hdg : decode cc pc = .ok (.invokevirtual index, 3)) (kk : ∀ (H : Heap) (locs : List Loc), va_P g.2.2.1 vwCl (wL g mc mm) H → va_S (AA g s.heap.size) s.heap H locs → W p l e R s m args below meth c H locs 0 0 Q (F0 m (pc + 3) ls (.int q :: rest))) : W p l e R s m args below meth c H locs 0 0 Q (F0 m pc ls (.int v1 :: .ref (g.1 108) :: rest)) :=
  x_VI Z hP hS (kX10_isWell l g v1 mc mm q hq) (mO) (ci := 10) (by decide) rfl rfl mf_X10_isWell mv_X10_isWell hlk rfl rfl hsz hro hR hdg kk
theorem dX10_isSaying_0 : decode cX10_isSaying 0 = .ok (.iload_n 1, 1) := by decide +kernel
theorem dX10_isSaying_1 : decode cX10_isSaying 1 = .ok (.i2l, 1) := by decide +kernel
theorem dX10_isSaying_2 : decode cX10_isSaying 2 = .ok (.lconst 0, 1) := by decide +kernel
theorem dX10_isSaying_3 : decode cX10_isSaying 3 = .ok (.aload_n 0, 1) := by decide +kernel
theorem dX10_isSaying_4 : decode cX10_isSaying 4 = .ok (.getfield 134, 3) := by decide +kernel
theorem dX10_isSaying_7 : decode cX10_isSaying 7 = .ok (.iconst 1, 1) := by decide +kernel
theorem dX10_isSaying_8 : decode cX10_isSaying 8 = .ok (.isub, 1) := by decide +kernel
theorem dX10_isSaying_9 : decode cX10_isSaying 9 = .ok (.i2l, 1) := by decide +kernel
theorem dX10_isSaying_10 : decode cX10_isSaying 10 = .ok (.invokestatic 83, 3) := by decide +kernel
theorem dX10_isSaying_13 : decode cX10_isSaying 13 = .ok (.ireturn, 1) := by decide +kernel
noncomputable def F10_isSaying (v1 : Int32) (mm : Mem) : Option (Int32) :=
  ((F10_in v1.toInt64 (0 : Int64) (((mm 0 9) - (1 : Int32)).toInt64)).bind (fun q2 => (bz q2 (some q2))))
set_option maxHeartbeats 4000000 in
set_option maxRecDepth 100000 in
theorem kX10_isSaying (l : Launch) (g : GG) (v1 : Int32) (mc mm : Mem) (q : Int32) (hF : F10_isSaying v1 mm = some q) : KI l yX10_isSaying cX10_isSaying 2 .boolean 1 25 g [.ref (g.1 108), .int v1] mc mm q (mc, mm) := by
  intro sz
  refine x_start (Qc := fun z => QI g z q (mc, mm)) (by decide +kernel) (Nat.le_of_ble_eq_true rfl) ?_ sz
  intro p e s m args below meth c ls Z hr hlk hP hl
  have hx := Z.1.1
  have hb := Z.1.2.1
  have hown := Z.1.2.2.2.1
  have hts := Z.1.2.2.2.2
  have hS : va_S (AA g s.heap.size) s.heap s.heap [] := va_S.rf
  have hl : lv_has ls 2 [(0, .ref (g.1 108)), (1, .int v1)] := hl
  unfold F10_isSaying at hF
  refine lv_iload_n hx hb dX10_isSaying_0 rfl (lv_at hl 1 rfl) ?_
  refine lv_i2l (v := v1.toInt64) hx hb dX10_isSaying_1 rfl ?_
  refine lv_lconst (v := (0 : Int64)) hx hb dX10_isSaying_2 lc_0 ?_
  refine lv_aload_n hx hb dX10_isSaying_3 rfl (lv_at hl 0 rfl) ?_
  refine gf10_9 Z hP wd_15_5 dX10_isSaying_4 ?_
  refine lv_iconst (v := (1 : Int32)) hx hb dX10_isSaying_7 ic_1 ?_
  refine lv_isub hx hb dX10_isSaying_8 ?_
  refine lv_i2l (v := ((mm 0 9) - (1 : Int32)).toInt64) hx hb dX10_isSaying_9 rfl ?_
  obtain ⟨q2, hq2, hF⟩ := bd_ok hF
  refine xX10_in Z hP hS hq2 wd_13_8 hl.1 (Nat.le_of_ble_eq_true rfl) ⟨Nat.le_of_ble_eq_true rfl, Nat.le_of_ble_eq_true rfl⟩ dX10_isSaying_10 (fun H locs hP hS => ?_)
  obtain ⟨hbz, hF⟩ := bz_ok hF
  exact ret_Z Z hr hlk hP hS hbz hF dX10_isSaying_13
theorem xX10_isSaying {p : Program} {l : Launch} {e : Env} {R : Room} {s : State} {m : MethodId} {args : Array Value} {below : List Frame} {meth : Method} {c : Code} {H : Heap} {locs : List Loc} {Q : State → Prop} {cc : ByteArray} {nL : Nat} {own : String} {g : GG} {pc index : Nat} {ls : Array Slot} {rest : List Value} {mc mm : Mem} (Z : ZZ p s m args c cc nL own g) (hP : va_P g.2.2.1 vwCl (wL g mc mm) H) (hS : va_S (AA g s.heap.size) s.heap H locs) {v1 : Int32} {q : Int32} (hq : F10_isSaying v1 mm = some q) (hlk : Cond.methodLink own index yX10_isSaying ∈ wsL_law) (hsz : ls.size = nL) (hro : (rest.map fun v => v.category).sum ≤ 8) (hR : 1 + 1 ≤ R.frames ∧ 8 + (2 + 11) + 25 ≤ R.locals) (hdg : decode cc pc = .ok (.invokevirtual index, 3)) (kk : ∀ (H : Heap) (locs : List Loc), va_P g.2.2.1 vwCl (wL g mc mm) H → va_S (AA g s.heap.size) s.heap H locs → W p l e R s m args below meth c H locs 0 0 Q (F0 m (pc + 3) ls (.int q :: rest))) : W p l e R s m args below meth c H locs 0 0 Q (F0 m pc ls (.int v1 :: .ref (g.1 108) :: rest)) :=
  x_VI Z hP hS (kX10_isSaying l g v1 mc mm q hq) (mO) (ci := 10) (by decide) rfl rfl mf_X10_isSaying mv_X10_isSaying hlk rfl rfl hsz hro hR hdg kk
theorem dX10_isHour_0 : decode cX10_isHour 0 = .ok (.iload_n 0, 1) := by decide +kernel
theorem dX10_isHour_1 : decode cX10_isHour 1 = .ok (.i2l, 1) := by decide +kernel
theorem dX10_isHour_2 : decode cX10_isHour 2 = .ok (.lconst 0, 1) := by decide +kernel
theorem dX10_isHour_3 : decode cX10_isHour 3 = .ok (.ldc2_w 150, 3) := by decide +kernel
theorem dX10_isHour_6 : decode cX10_isHour 6 = .ok (.invokestatic 83, 3) := by decide +kernel
theorem dX10_isHour_9 : decode cX10_isHour 9 = .ok (.ireturn, 1) := by decide +kernel
noncomputable def F10_isHour (v0 : Int32) : Option (Int32) :=
  ((F10_in v0.toInt64 (0 : Int64) (39 : Int64)).bind (fun q2 => (bz q2 (some q2))))
set_option maxHeartbeats 4000000 in
set_option maxRecDepth 100000 in
theorem kX10_isHour (l : Launch) (g : GG) (v0 : Int32) (mc mm : Mem) (q : Int32) (hF : F10_isHour v0 = some q) : KI l yX10_isHour cX10_isHour 1 .boolean 1 25 g [.int v0] mc mm q (mc, mm) := by
  intro sz
  refine x_start (Qc := fun z => QI g z q (mc, mm)) (by decide +kernel) (Nat.le_of_ble_eq_true rfl) ?_ sz
  intro p e s m args below meth c ls Z hr hlk hP hl
  have hx := Z.1.1
  have hb := Z.1.2.1
  have hown := Z.1.2.2.2.1
  have hts := Z.1.2.2.2.2
  have hS : va_S (AA g s.heap.size) s.heap s.heap [] := va_S.rf
  have hl : lv_has ls 1 [(0, .int v0)] := hl
  unfold F10_isHour at hF
  refine lv_iload_n hx hb dX10_isHour_0 rfl (lv_at hl 0 rfl) ?_
  refine lv_i2l (v := v0.toInt64) hx hb dX10_isHour_1 rfl ?_
  refine lv_lconst (v := (0 : Int64)) hx hb dX10_isHour_2 lc_0 ?_
  refine lv_ldc2 (v := (39 : Int64)) hx hb hown (hts _ wd_18_8) dX10_isHour_3 ?_
  obtain ⟨q2, hq2, hF⟩ := bd_ok hF
  refine xX10_in Z hP hS hq2 wd_13_8 hl.1 (Nat.le_of_ble_eq_true rfl) ⟨Nat.le_of_ble_eq_true rfl, Nat.le_of_ble_eq_true rfl⟩ dX10_isHour_6 (fun H locs hP hS => ?_)
  obtain ⟨hbz, hF⟩ := bz_ok hF
  exact ret_Z Z hr hlk hP hS hbz hF dX10_isHour_9
theorem xX10_isHour {p : Program} {l : Launch} {e : Env} {R : Room} {s : State} {m : MethodId} {args : Array Value} {below : List Frame} {meth : Method} {c : Code} {H : Heap} {locs : List Loc} {Q : State → Prop} {cc : ByteArray} {nL : Nat} {own : String} {g : GG} {pc index : Nat} {ls : Array Slot} {rest : List Value} {mc mm : Mem} (Z : ZZ p s m args c cc nL own g) (hP : va_P g.2.2.1 vwCl (wL g mc mm) H) (hS : va_S (AA g s.heap.size) s.heap H locs) {v0 : Int32} {q : Int32} (hq : F10_isHour v0 = some q) (hlk : Cond.methodLink own index yX10_isHour ∈ wsL_law) (hsz : ls.size = nL) (hro : (rest.map fun v => v.category).sum ≤ 8) (hR : 1 + 1 ≤ R.frames ∧ 8 + (1 + 11) + 25 ≤ R.locals) (hdg : decode cc pc = .ok (.invokestatic index, 3)) (kk : ∀ (H : Heap) (locs : List Loc), va_P g.2.2.1 vwCl (wL g mc mm) H → va_S (AA g s.heap.size) s.heap H locs → W p l e R s m args below meth c H locs 0 0 Q (F0 m (pc + 3) ls (.int q :: rest))) : W p l e R s m args below meth c H locs 0 0 Q (F0 m pc ls (.int v0 :: rest)) :=
  x_SI Z hP hS (kX10_isHour l g v0 mc mm q hq) mf_X10_isHour wd_18_6 hlk rfl rfl hsz hro hR hdg kk
theorem dX10_isEight_0 : decode cX10_isEight 0 = .ok (.iload_n 0, 1) := by decide +kernel
theorem dX10_isEight_1 : decode cX10_isEight 1 = .ok (.i2l, 1) := by decide +kernel
theorem dX10_isEight_2 : decode cX10_isEight 2 = .ok (.lconst 0, 1) := by decide +kernel
theorem dX10_isEight_3 : decode cX10_isEight 3 = .ok (.ldc2_w 152, 3) := by decide +kernel
theorem dX10_isEight_6 : decode cX10_isEight 6 = .ok (.invokestatic 83, 3) := by decide +kernel
theorem dX10_isEight_9 : decode cX10_isEight 9 = .ok (.ireturn, 1) := by decide +kernel
noncomputable def F10_isEight (v0 : Int32) : Option (Int32) :=
  ((F10_in v0.toInt64 (0 : Int64) (7 : Int64)).bind (fun q2 => (bz q2 (some q2))))
set_option maxHeartbeats 4000000 in
set_option maxRecDepth 100000 in
theorem kX10_isEight (l : Launch) (g : GG) (v0 : Int32) (mc mm : Mem) (q : Int32) (hF : F10_isEight v0 = some q) : KI l yX10_isEight cX10_isEight 1 .boolean 1 25 g [.int v0] mc mm q (mc, mm) := by
  intro sz
  refine x_start (Qc := fun z => QI g z q (mc, mm)) (by decide +kernel) (Nat.le_of_ble_eq_true rfl) ?_ sz
  intro p e s m args below meth c ls Z hr hlk hP hl
  have hx := Z.1.1
  have hb := Z.1.2.1
  have hown := Z.1.2.2.2.1
  have hts := Z.1.2.2.2.2
  have hS : va_S (AA g s.heap.size) s.heap s.heap [] := va_S.rf
  have hl : lv_has ls 1 [(0, .int v0)] := hl
  unfold F10_isEight at hF
  refine lv_iload_n hx hb dX10_isEight_0 rfl (lv_at hl 0 rfl) ?_
  refine lv_i2l (v := v0.toInt64) hx hb dX10_isEight_1 rfl ?_
  refine lv_lconst (v := (0 : Int64)) hx hb dX10_isEight_2 lc_0 ?_
  refine lv_ldc2 (v := (7 : Int64)) hx hb hown (hts _ wd_17_2) dX10_isEight_3 ?_
  obtain ⟨q2, hq2, hF⟩ := bd_ok hF
  refine xX10_in Z hP hS hq2 wd_13_8 hl.1 (Nat.le_of_ble_eq_true rfl) ⟨Nat.le_of_ble_eq_true rfl, Nat.le_of_ble_eq_true rfl⟩ dX10_isEight_6 (fun H locs hP hS => ?_)
  obtain ⟨hbz, hF⟩ := bz_ok hF
  exact ret_Z Z hr hlk hP hS hbz hF dX10_isEight_9
theorem xX10_isEight {p : Program} {l : Launch} {e : Env} {R : Room} {s : State} {m : MethodId} {args : Array Value} {below : List Frame} {meth : Method} {c : Code} {H : Heap} {locs : List Loc} {Q : State → Prop} {cc : ByteArray} {nL : Nat} {own : String} {g : GG} {pc index : Nat} {ls : Array Slot} {rest : List Value} {mc mm : Mem} (Z : ZZ p s m args c cc nL own g) (hP : va_P g.2.2.1 vwCl (wL g mc mm) H) (hS : va_S (AA g s.heap.size) s.heap H locs) {v0 : Int32} {q : Int32} (hq : F10_isEight v0 = some q) (hlk : Cond.methodLink own index yX10_isEight ∈ wsL_law) (hsz : ls.size = nL) (hro : (rest.map fun v => v.category).sum ≤ 8) (hR : 1 + 1 ≤ R.frames ∧ 8 + (1 + 11) + 25 ≤ R.locals) (hdg : decode cc pc = .ok (.invokestatic index, 3)) (kk : ∀ (H : Heap) (locs : List Loc), va_P g.2.2.1 vwCl (wL g mc mm) H → va_S (AA g s.heap.size) s.heap H locs → W p l e R s m args below meth c H locs 0 0 Q (F0 m (pc + 3) ls (.int q :: rest))) : W p l e R s m args below meth c H locs 0 0 Q (F0 m pc ls (.int v0 :: rest)) :=
  x_SI Z hP hS (kX10_isEight l g v0 mc mm q hq) mf_X10_isEight wd_18_10 hlk rfl rfl hsz hro hR hdg kk
theorem dX10_down_0 : decode cX10_down 0 = .ok (.iconst (-1), 1) := by decide +kernel
theorem dX10_down_1 : decode cX10_down 1 = .ok (.istore_n 2, 1) := by decide +kernel
theorem dX10_down_2 : decode cX10_down 2 = .ok (.iconst 0, 1) := by decide +kernel
theorem dX10_down_3 : decode cX10_down 3 = .ok (.istore_n 3, 1) := by decide +kernel
theorem dX10_down_4 : decode cX10_down 4 = .ok (.iload_n 3, 1) := by decide +kernel
theorem dX10_down_5 : decode cX10_down 5 = .ok (.aload_n 0, 1) := by decide +kernel
theorem dX10_down_6 : decode cX10_down 6 = .ok (.getfield 120, 3) := by decide +kernel
theorem dX10_down_9 : decode cX10_down 9 = .ok (.if_icmp .ge 78, 3) := by decide +kernel
theorem dX10_down_12 : decode cX10_down 12 = .ok (.aload_n 0, 1) := by decide +kernel
theorem dX10_down_13 : decode cX10_down 13 = .ok (.getfield 28, 3) := by decide +kernel
theorem dX10_down_16 : decode cX10_down 16 = .ok (.iconst 2, 1) := by decide +kernel
theorem dX10_down_17 : decode cX10_down 17 = .ok (.iload_n 3, 1) := by decide +kernel
theorem dX10_down_18 : decode cX10_down 18 = .ok (.imul, 1) := by decide +kernel
theorem dX10_down_19 : decode cX10_down 19 = .ok (.iconst 1, 1) := by decide +kernel
theorem dX10_down_20 : decode cX10_down 20 = .ok (.iadd, 1) := by decide +kernel
theorem dX10_down_21 : decode cX10_down 21 = .ok (.iaload, 1) := by decide +kernel
theorem dX10_down_22 : decode cX10_down 22 = .ok (.aload_n 0, 1) := by decide +kernel
theorem dX10_down_23 : decode cX10_down 23 = .ok (.getfield 28, 3) := by decide +kernel
theorem dX10_down_26 : decode cX10_down 26 = .ok (.iconst 2, 1) := by decide +kernel
theorem dX10_down_27 : decode cX10_down 27 = .ok (.iload_n 1, 1) := by decide +kernel
theorem dX10_down_28 : decode cX10_down 28 = .ok (.imul, 1) := by decide +kernel
theorem dX10_down_29 : decode cX10_down 29 = .ok (.iconst 1, 1) := by decide +kernel
theorem dX10_down_30 : decode cX10_down 30 = .ok (.iadd, 1) := by decide +kernel
theorem dX10_down_31 : decode cX10_down 31 = .ok (.iaload, 1) := by decide +kernel
theorem dX10_down_32 : decode cX10_down 32 = .ok (.if_icmp .ge 7, 3) := by decide +kernel
theorem dX10_down_35 : decode cX10_down 35 = .ok (.iconst 1, 1) := by decide +kernel
theorem dX10_down_36 : decode cX10_down 36 = .ok (.goto 4, 3) := by decide +kernel
theorem dX10_down_39 : decode cX10_down 39 = .ok (.iconst 0, 1) := by decide +kernel
theorem dX10_down_40 : decode cX10_down 40 = .ok (.istore 4, 2) := by decide +kernel
theorem dX10_down_42 : decode cX10_down 42 = .ok (.iload 4, 2) := by decide +kernel
theorem dX10_down_44 : decode cX10_down 44 = .ok (.ifCond .eq 35, 3) := by decide +kernel
theorem dX10_down_47 : decode cX10_down 47 = .ok (.iload_n 2, 1) := by decide +kernel
theorem dX10_down_48 : decode cX10_down 48 = .ok (.iconst (-1), 1) := by decide +kernel
theorem dX10_down_49 : decode cX10_down 49 = .ok (.if_icmp .eq 26, 3) := by decide +kernel
theorem dX10_down_52 : decode cX10_down 52 = .ok (.aload_n 0, 1) := by decide +kernel
theorem dX10_down_53 : decode cX10_down 53 = .ok (.getfield 28, 3) := by decide +kernel
theorem dX10_down_56 : decode cX10_down 56 = .ok (.iconst 2, 1) := by decide +kernel
theorem dX10_down_57 : decode cX10_down 57 = .ok (.iload_n 3, 1) := by decide +kernel
theorem dX10_down_58 : decode cX10_down 58 = .ok (.imul, 1) := by decide +kernel
theorem dX10_down_59 : decode cX10_down 59 = .ok (.iconst 1, 1) := by decide +kernel
theorem dX10_down_60 : decode cX10_down 60 = .ok (.iadd, 1) := by decide +kernel
theorem dX10_down_61 : decode cX10_down 61 = .ok (.iaload, 1) := by decide +kernel
theorem dX10_down_62 : decode cX10_down 62 = .ok (.aload_n 0, 1) := by decide +kernel
theorem dX10_down_63 : decode cX10_down 63 = .ok (.getfield 28, 3) := by decide +kernel
theorem dX10_down_66 : decode cX10_down 66 = .ok (.iconst 2, 1) := by decide +kernel
theorem dX10_down_67 : decode cX10_down 67 = .ok (.iload_n 2, 1) := by decide +kernel
theorem dX10_down_68 : decode cX10_down 68 = .ok (.imul, 1) := by decide +kernel
theorem dX10_down_69 : decode cX10_down 69 = .ok (.iconst 1, 1) := by decide +kernel
theorem dX10_down_70 : decode cX10_down 70 = .ok (.iadd, 1) := by decide +kernel
theorem dX10_down_71 : decode cX10_down 71 = .ok (.iaload, 1) := by decide +kernel
theorem dX10_down_72 : decode cX10_down 72 = .ok (.if_icmp .le 7, 3) := by decide +kernel
theorem dX10_down_75 : decode cX10_down 75 = .ok (.iload_n 3, 1) := by decide +kernel
theorem dX10_down_76 : decode cX10_down 76 = .ok (.goto 4, 3) := by decide +kernel
theorem dX10_down_79 : decode cX10_down 79 = .ok (.iload_n 2, 1) := by decide +kernel
theorem dX10_down_80 : decode cX10_down 80 = .ok (.istore_n 2, 1) := by decide +kernel
theorem dX10_down_81 : decode cX10_down 81 = .ok (.iinc 3 1, 3) := by decide +kernel
theorem dX10_down_84 : decode cX10_down 84 = .ok (.goto (-80), 3) := by decide +kernel
theorem dX10_down_87 : decode cX10_down 87 = .ok (.iload_n 2, 1) := by decide +kernel
theorem dX10_down_88 : decode cX10_down 88 = .ok (.ireturn, 1) := by decide +kernel
noncomputable def F10_down_b80 (kh : Int32 → Int32 → Option (Int32)) (v1 : Int32) (mm : Mem) (a3 : Int32) (s0 : Int32) : Option (Int32) :=
  kh s0 (a3 + (1 : Int32))
noncomputable def F10_down_b79 (kh : Int32 → Int32 → Option (Int32)) (v1 : Int32) (mm : Mem) (a2 : Int32) (a3 : Int32) : Option (Int32) :=
  (F10_down_b80 kh v1 mm) a3 a2
noncomputable def F10_down_b75 (kh : Int32 → Int32 → Option (Int32)) (v1 : Int32) (mm : Mem) (a3 : Int32) : Option (Int32) :=
  (F10_down_b80 kh v1 mm) a3 a3
noncomputable def F10_down_b40 (kh : Int32 → Int32 → Option (Int32)) (v1 : Int32) (mm : Mem) (a2 : Int32) (a3 : Int32) (s0 : Int32) : Option (Int32) :=
  (if s0 = (0 : Int32) then (F10_down_b79 kh v1 mm) a2 a3 else (if a2 = (-1 : Int32) then (F10_down_b75 kh v1 mm) a3 else (ck (((2 : Int32) * a3) + (1 : Int32)) 16 (ck (((2 : Int32) * a2) + (1 : Int32)) 16 (if (mm 7 (((2 : Int32) * a3) + (1 : Int32)).toNatClampNeg) ≤ (mm 7 (((2 : Int32) * a2) + (1 : Int32)).toNatClampNeg) then (F10_down_b79 kh v1 mm) a2 a3 else (F10_down_b75 kh v1 mm) a3)))))
noncomputable def F10_down_p4 (kh : Int32 → Int32 → Option (Int32)) (v1 : Int32) (mm : Mem) (a2 : Int32) (a3 : Int32) : Option (Int32) :=
  (if (mm 0 7) ≤ a3 then some a2 else (ck (((2 : Int32) * a3) + (1 : Int32)) 16 (ck (((2 : Int32) * v1) + (1 : Int32)) 16 (if (mm 7 (((2 : Int32) * v1) + (1 : Int32)).toNatClampNeg) ≤ (mm 7 (((2 : Int32) * a3) + (1 : Int32)).toNatClampNeg) then (F10_down_b40 kh v1 mm) a2 a3 (0 : Int32) else (F10_down_b40 kh v1 mm) a2 a3 (1 : Int32)))))
noncomputable def F10_down_h4 (v1 : Int32) (mm : Mem) : Nat → Int32 → Int32 → Option (Int32)
  | 0, _, _ => none
  | n + 1, a2, a3 => F10_down_p4 (F10_down_h4 v1 mm n) v1 mm a2 a3
noncomputable def F10_down (v1 : Int32) (mm : Mem) : Option (Int32) :=
  (F10_down_h4 v1 mm FU) (-1 : Int32) (0 : Int32)
set_option maxHeartbeats 4000000 in
set_option maxRecDepth 100000 in
theorem kX10_down (l : Launch) (g : GG) (v1 : Int32) (mc mm : Mem) (q : Int32) (hF : F10_down v1 mm = some q) : KI l yX10_down cX10_down 5 .int 0 0 g [.ref (g.1 108), .int v1] mc mm q (mc, mm) := by
  intro sz
  refine x_start (Qc := fun z => QI g z q (mc, mm)) (by decide +kernel) (Nat.le_of_ble_eq_true rfl) ?_ sz
  intro p e s m args below meth c ls Z hr hlk hP hl
  have hx := Z.1.1
  have hb := Z.1.2.1
  have hown := Z.1.2.2.2.1
  have hts := Z.1.2.2.2.2
  have hS : va_S (AA g s.heap.size) s.heap s.heap [] := va_S.rf
  have hl : lv_has ls 5 [(0, .ref (g.1 108)), (1, .int v1)] := hl
  unfold F10_down at hF
  have hL4 : ∀ n : Nat, ∀ (a2 : Int32) (a3 : Int32), F10_down_h4 v1 mm n a2 a3 = some q → ∀ (H : Heap) (locs : List Loc) (ls : Array Slot), lv_has ls 5 [(0, .ref (g.1 108)), (1, .int v1), (2, .int a2), (3, .int a3)] → va_P g.2.2.1 vwCl (wL g mc mm) H → va_S (AA g s.heap.size) s.heap H locs → W p l e { frames := 0, cells := 0, slots := 0, locals := 0 } s m args below meth c H locs 0 0 (MQ below (QI g s.heap.size q (mc, mm)) args s 0 0 (AA g s.heap.size)) (F0 m 4 ls []) := by
    intro n
    induction n with
    | zero => intro a2 a3 hF H locs ls hl hP hS; exact absurd hF (fun z => nomatch (show (none : Option _) = some q from z))
    | succ n ih =>
      generalize hkh : F10_down_h4 v1 mm n = kh at ih
      have hb80 : ∀ (a3 : Int32) (s0 : Int32), F10_down_b80 kh v1 mm a3 s0 = some q → ∀ (H : Heap) (locs : List Loc) (ls : Array Slot), lv_has ls 5 [(0, .ref (g.1 108)), (1, .int v1), (3, .int a3)] → va_P g.2.2.1 vwCl (wL g mc mm) H → va_S (AA g s.heap.size) s.heap H locs → W p l e { frames := 0, cells := 0, slots := 0, locals := 0 } s m args below meth c H locs 0 0 (MQ below (QI g s.heap.size q (mc, mm)) args s 0 0 (AA g s.heap.size)) (F0 m 80 ls [.int s0]) := by
        intro a3 s0 hF H locs ls hl hP hS
        unfold F10_down_b80 at hF
        refine lv_istore_n (lv' := [(2, .int s0), (0, .ref (g.1 108)), (1, .int v1), (3, .int a3)]) hx hb dX10_down_80 rfl hl (Nat.le_of_ble_eq_true rfl) rfl (fun ls hl => ?_)
        refine lv_iinc (lv' := [(3, .int (a3 + (1 : Int32))), (2, .int s0), (0, .ref (g.1 108)), (1, .int v1)]) (v := (a3 + (1 : Int32))) hx hb dX10_down_81 hl (k := 3) rfl (io_1 _) (Nat.le_of_ble_eq_true rfl) rfl (fun ls hl => ?_)
        refine lv_goto (tgt := 4) hx hb dX10_down_84 rfl ?_
        exact ih _ _ hF _ _ _ (lv_sub hl [2, 3, 1, 0] rfl) hP hS
      have hb79 : ∀ (a2 : Int32) (a3 : Int32), F10_down_b79 kh v1 mm a2 a3 = some q → ∀ (H : Heap) (locs : List Loc) (ls : Array Slot), lv_has ls 5 [(0, .ref (g.1 108)), (1, .int v1), (2, .int a2), (3, .int a3)] → va_P g.2.2.1 vwCl (wL g mc mm) H → va_S (AA g s.heap.size) s.heap H locs → W p l e { frames := 0, cells := 0, slots := 0, locals := 0 } s m args below meth c H locs 0 0 (MQ below (QI g s.heap.size q (mc, mm)) args s 0 0 (AA g s.heap.size)) (F0 m 79 ls []) := by
        intro a2 a3 hF H locs ls hl hP hS
        unfold F10_down_b79 at hF
        refine lv_iload_n hx hb dX10_down_79 rfl (lv_at hl 2 rfl) ?_
        exact hb80 _ _ hF _ _ _ (lv_sub hl [0, 1, 3] rfl) hP hS
      have hb75 : ∀ (a3 : Int32), F10_down_b75 kh v1 mm a3 = some q → ∀ (H : Heap) (locs : List Loc) (ls : Array Slot), lv_has ls 5 [(0, .ref (g.1 108)), (1, .int v1), (3, .int a3)] → va_P g.2.2.1 vwCl (wL g mc mm) H → va_S (AA g s.heap.size) s.heap H locs → W p l e { frames := 0, cells := 0, slots := 0, locals := 0 } s m args below meth c H locs 0 0 (MQ below (QI g s.heap.size q (mc, mm)) args s 0 0 (AA g s.heap.size)) (F0 m 75 ls []) := by
        intro a3 hF H locs ls hl hP hS
        unfold F10_down_b75 at hF
        refine lv_iload_n hx hb dX10_down_75 rfl (lv_at hl 2 rfl) ?_
        refine lv_goto (tgt := 80) hx hb dX10_down_76 rfl ?_
        exact hb80 _ _ hF _ _ _ (lv_sub hl [0, 1, 2] rfl) hP hS
      have hb40 : ∀ (a2 : Int32) (a3 : Int32) (s0 : Int32), F10_down_b40 kh v1 mm a2 a3 s0 = some q → ∀ (H : Heap) (locs : List Loc) (ls : Array Slot), lv_has ls 5 [(0, .ref (g.1 108)), (1, .int v1), (2, .int a2), (3, .int a3)] → va_P g.2.2.1 vwCl (wL g mc mm) H → va_S (AA g s.heap.size) s.heap H locs → W p l e { frames := 0, cells := 0, slots := 0, locals := 0 } s m args below meth c H locs 0 0 (MQ below (QI g s.heap.size q (mc, mm)) args s 0 0 (AA g s.heap.size)) (F0 m 40 ls [.int s0]) := by
        intro a2 a3 s0 hF H locs ls hl hP hS
        unfold F10_down_b40 at hF
        refine lv_istore (lv' := [(4, .int s0), (0, .ref (g.1 108)), (1, .int v1), (2, .int a2), (3, .int a3)]) hx hb dX10_down_40 hl (Nat.le_of_ble_eq_true rfl) rfl (fun ls hl => ?_)
        refine lv_iload hx hb dX10_down_42 (lv_at hl 0 rfl) ?_
        refine lv_if_eq (tgt := 79) hx hb dX10_down_44 rfl (fun hc => ?_) (fun hc => ?_)
        · have hF := (if_pos hc).symm.trans hF
          exact hb79 _ _ hF _ _ _ (lv_sub hl [1, 2, 3, 4] rfl) hP hS
        · have hF := (if_neg hc).symm.trans hF
          refine lv_iload_n hx hb dX10_down_47 rfl (lv_at hl 3 rfl) ?_
          refine lv_iconst (v := (-1 : Int32)) hx hb dX10_down_48 ic_m1 ?_
          refine lv_icmp_eq (tgt := 75) hx hb dX10_down_49 rfl (fun hc => ?_) (fun hc => ?_)
          · have hF := (if_pos hc).symm.trans hF
            exact hb75 _ hF _ _ _ (lv_sub hl [1, 2, 4] rfl) hP hS
          · have hF := (if_neg hc).symm.trans hF
            refine lv_aload_n hx hb dX10_down_52 rfl (lv_at hl 1 rfl) ?_
            refine gf10_8 Z hP wd_6_10 dX10_down_53 ?_
            refine lv_iconst (v := (2 : Int32)) hx hb dX10_down_56 ic_2 ?_
            refine lv_iload_n hx hb dX10_down_57 rfl (lv_at hl 4 rfl) ?_
            refine lv_imul hx hb dX10_down_58 ?_
            refine lv_iconst (v := (1 : Int32)) hx hb dX10_down_59 ic_1 ?_
            refine lv_iadd hx hb dX10_down_60 ?_
            obtain ⟨hi5, hF⟩ := ck_ok hF
            refine rM_ld Z hP 16 7 (by decide +kernel) hi5 dX10_down_61 ?_
            refine lv_aload_n hx hb dX10_down_62 rfl (lv_at hl 1 rfl) ?_
            refine gf10_8 Z hP wd_6_10 dX10_down_63 ?_
            refine lv_iconst (v := (2 : Int32)) hx hb dX10_down_66 ic_2 ?_
            refine lv_iload_n hx hb dX10_down_67 rfl (lv_at hl 3 rfl) ?_
            refine lv_imul hx hb dX10_down_68 ?_
            refine lv_iconst (v := (1 : Int32)) hx hb dX10_down_69 ic_1 ?_
            refine lv_iadd hx hb dX10_down_70 ?_
            obtain ⟨hi6, hF⟩ := ck_ok hF
            refine rM_ld Z hP 16 7 (by decide +kernel) hi6 dX10_down_71 ?_
            refine lv_icmp_le (tgt := 79) hx hb dX10_down_72 rfl (fun hc => ?_) (fun hc => ?_)
            · have hF := (if_pos hc).symm.trans hF
              exact hb79 _ _ hF _ _ _ (lv_sub hl [1, 2, 3, 4] rfl) hP hS
            · have hF := (if_neg hc).symm.trans hF
              exact hb75 _ hF _ _ _ (lv_sub hl [1, 2, 4] rfl) hP hS
      intro a2 a3 hF H locs ls hl hP hS
      have hF : F10_down_p4 (F10_down_h4 v1 mm n) v1 mm a2 a3 = some q := hF
      rw [hkh] at hF
      unfold F10_down_p4 at hF
      refine lv_iload_n hx hb dX10_down_4 rfl (lv_at hl 3 rfl) ?_
      refine lv_aload_n hx hb dX10_down_5 rfl (lv_at hl 0 rfl) ?_
      refine gf10_7 Z hP wd_14_19 dX10_down_6 ?_
      refine lv_icmp_ge (tgt := 87) hx hb dX10_down_9 rfl (fun hc => ?_) (fun hc => ?_)
      · have hF := (if_pos hc).symm.trans hF
        refine lv_iload_n hx hb dX10_down_87 rfl (lv_at hl 2 rfl) ?_
        exact ret_I Z hr hlk hP hS hF dX10_down_88
      · have hF := (if_neg hc).symm.trans hF
        refine lv_aload_n hx hb dX10_down_12 rfl (lv_at hl 0 rfl) ?_
        refine gf10_8 Z hP wd_6_10 dX10_down_13 ?_
        refine lv_iconst (v := (2 : Int32)) hx hb dX10_down_16 ic_2 ?_
        refine lv_iload_n hx hb dX10_down_17 rfl (lv_at hl 3 rfl) ?_
        refine lv_imul hx hb dX10_down_18 ?_
        refine lv_iconst (v := (1 : Int32)) hx hb dX10_down_19 ic_1 ?_
        refine lv_iadd hx hb dX10_down_20 ?_
        obtain ⟨hi7, hF⟩ := ck_ok hF
        refine rM_ld Z hP 16 7 (by decide +kernel) hi7 dX10_down_21 ?_
        refine lv_aload_n hx hb dX10_down_22 rfl (lv_at hl 0 rfl) ?_
        refine gf10_8 Z hP wd_6_10 dX10_down_23 ?_
        refine lv_iconst (v := (2 : Int32)) hx hb dX10_down_26 ic_2 ?_
        refine lv_iload_n hx hb dX10_down_27 rfl (lv_at hl 1 rfl) ?_
        refine lv_imul hx hb dX10_down_28 ?_
        refine lv_iconst (v := (1 : Int32)) hx hb dX10_down_29 ic_1 ?_
        refine lv_iadd hx hb dX10_down_30 ?_
        obtain ⟨hi8, hF⟩ := ck_ok hF
        refine rM_ld Z hP 16 7 (by decide +kernel) hi8 dX10_down_31 ?_
        refine lv_icmp_ge (tgt := 39) hx hb dX10_down_32 rfl (fun hc => ?_) (fun hc => ?_)
        · have hF := (if_pos hc).symm.trans hF
          refine lv_iconst (v := (0 : Int32)) hx hb dX10_down_39 ic_0 ?_
          exact hb40 _ _ _ hF _ _ _ (lv_sub hl [0, 1, 2, 3] rfl) hP hS
        · have hF := (if_neg hc).symm.trans hF
          refine lv_iconst (v := (1 : Int32)) hx hb dX10_down_35 ic_1 ?_
          refine lv_goto (tgt := 40) hx hb dX10_down_36 rfl ?_
          exact hb40 _ _ _ hF _ _ _ (lv_sub hl [0, 1, 2, 3] rfl) hP hS
  refine lv_iconst (v := (-1 : Int32)) hx hb dX10_down_0 ic_m1 ?_
  refine lv_istore_n (lv' := [(2, .int (-1 : Int32)), (0, .ref (g.1 108)), (1, .int v1)]) hx hb dX10_down_1 rfl hl (Nat.le_of_ble_eq_true rfl) rfl (fun ls hl => ?_)
  refine lv_iconst (v := (0 : Int32)) hx hb dX10_down_2 ic_0 ?_
  refine lv_istore_n (lv' := [(3, .int (0 : Int32)), (2, .int (-1 : Int32)), (0, .ref (g.1 108)), (1, .int v1)]) hx hb dX10_down_3 rfl hl (Nat.le_of_ble_eq_true rfl) rfl (fun ls hl => ?_)
  exact (hL4 FU) _ _ hF _ _ _ (lv_sub hl [2, 3, 1, 0] rfl) hP hS
theorem xX10_down {p : Program} {l : Launch} {e : Env} {R : Room} {s : State} {m : MethodId} {args : Array Value} {below : List Frame} {meth : Method} {c : Code} {H : Heap} {locs : List Loc} {Q : State → Prop} {cc : ByteArray} {nL : Nat} {own : String} {g : GG} {pc index : Nat} {ls : Array Slot} {rest : List Value} {mc mm : Mem} (Z : ZZ p s m args c cc nL own g) (hP : va_P g.2.2.1 vwCl (wL g mc mm) H) (hS : va_S (AA g s.heap.size) s.heap H locs) {v1 : Int32} {q : Int32} (hq : F10_down v1 mm = some q) (hlk : Cond.methodLink own index yX10_down ∈ wsL_law) (hsz : ls.size = nL) (hro : (rest.map fun v => v.category).sum ≤ 8) (hR : 0 + 1 ≤ R.frames ∧ 8 + (5 + 11) + 0 ≤ R.locals) (hdg : decode cc pc = .ok (.invokevirtual index, 3)) (kk : ∀ (H : Heap) (locs : List Loc), va_P g.2.2.1 vwCl (wL g mc mm) H → va_S (AA g s.heap.size) s.heap H locs → W p l e R s m args below meth c H locs 0 0 Q (F0 m (pc + 3) ls (.int q :: rest))) : W p l e R s m args below meth c H locs 0 0 Q (F0 m pc ls (.int v1 :: .ref (g.1 108) :: rest)) :=
  x_VI Z hP hS (kX10_down l g v1 mc mm q hq) (mO) (ci := 10) (by decide) rfl rfl mf_X10_down mv_X10_down hlk rfl rfl hsz hro hR hdg kk
theorem dX10_up_0 : decode cX10_up 0 = .ok (.iconst (-1), 1) := by decide +kernel
theorem dX10_up_1 : decode cX10_up 1 = .ok (.istore_n 2, 1) := by decide +kernel
theorem dX10_up_2 : decode cX10_up 2 = .ok (.iconst 0, 1) := by decide +kernel
theorem dX10_up_3 : decode cX10_up 3 = .ok (.istore_n 3, 1) := by decide +kernel
theorem dX10_up_4 : decode cX10_up 4 = .ok (.iload_n 3, 1) := by decide +kernel
theorem dX10_up_5 : decode cX10_up 5 = .ok (.aload_n 0, 1) := by decide +kernel
theorem dX10_up_6 : decode cX10_up 6 = .ok (.getfield 120, 3) := by decide +kernel
theorem dX10_up_9 : decode cX10_up 9 = .ok (.if_icmp .ge 78, 3) := by decide +kernel
theorem dX10_up_12 : decode cX10_up 12 = .ok (.aload_n 0, 1) := by decide +kernel
theorem dX10_up_13 : decode cX10_up 13 = .ok (.getfield 28, 3) := by decide +kernel
theorem dX10_up_16 : decode cX10_up 16 = .ok (.iconst 2, 1) := by decide +kernel
theorem dX10_up_17 : decode cX10_up 17 = .ok (.iload_n 3, 1) := by decide +kernel
theorem dX10_up_18 : decode cX10_up 18 = .ok (.imul, 1) := by decide +kernel
theorem dX10_up_19 : decode cX10_up 19 = .ok (.iconst 1, 1) := by decide +kernel
theorem dX10_up_20 : decode cX10_up 20 = .ok (.iadd, 1) := by decide +kernel
theorem dX10_up_21 : decode cX10_up 21 = .ok (.iaload, 1) := by decide +kernel
theorem dX10_up_22 : decode cX10_up 22 = .ok (.aload_n 0, 1) := by decide +kernel
theorem dX10_up_23 : decode cX10_up 23 = .ok (.getfield 28, 3) := by decide +kernel
theorem dX10_up_26 : decode cX10_up 26 = .ok (.iconst 2, 1) := by decide +kernel
theorem dX10_up_27 : decode cX10_up 27 = .ok (.iload_n 1, 1) := by decide +kernel
theorem dX10_up_28 : decode cX10_up 28 = .ok (.imul, 1) := by decide +kernel
theorem dX10_up_29 : decode cX10_up 29 = .ok (.iconst 1, 1) := by decide +kernel
theorem dX10_up_30 : decode cX10_up 30 = .ok (.iadd, 1) := by decide +kernel
theorem dX10_up_31 : decode cX10_up 31 = .ok (.iaload, 1) := by decide +kernel
theorem dX10_up_32 : decode cX10_up 32 = .ok (.if_icmp .le 7, 3) := by decide +kernel
theorem dX10_up_35 : decode cX10_up 35 = .ok (.iconst 1, 1) := by decide +kernel
theorem dX10_up_36 : decode cX10_up 36 = .ok (.goto 4, 3) := by decide +kernel
theorem dX10_up_39 : decode cX10_up 39 = .ok (.iconst 0, 1) := by decide +kernel
theorem dX10_up_40 : decode cX10_up 40 = .ok (.istore 4, 2) := by decide +kernel
theorem dX10_up_42 : decode cX10_up 42 = .ok (.iload 4, 2) := by decide +kernel
theorem dX10_up_44 : decode cX10_up 44 = .ok (.ifCond .eq 35, 3) := by decide +kernel
theorem dX10_up_47 : decode cX10_up 47 = .ok (.iload_n 2, 1) := by decide +kernel
theorem dX10_up_48 : decode cX10_up 48 = .ok (.iconst (-1), 1) := by decide +kernel
theorem dX10_up_49 : decode cX10_up 49 = .ok (.if_icmp .eq 26, 3) := by decide +kernel
theorem dX10_up_52 : decode cX10_up 52 = .ok (.aload_n 0, 1) := by decide +kernel
theorem dX10_up_53 : decode cX10_up 53 = .ok (.getfield 28, 3) := by decide +kernel
theorem dX10_up_56 : decode cX10_up 56 = .ok (.iconst 2, 1) := by decide +kernel
theorem dX10_up_57 : decode cX10_up 57 = .ok (.iload_n 3, 1) := by decide +kernel
theorem dX10_up_58 : decode cX10_up 58 = .ok (.imul, 1) := by decide +kernel
theorem dX10_up_59 : decode cX10_up 59 = .ok (.iconst 1, 1) := by decide +kernel
theorem dX10_up_60 : decode cX10_up 60 = .ok (.iadd, 1) := by decide +kernel
theorem dX10_up_61 : decode cX10_up 61 = .ok (.iaload, 1) := by decide +kernel
theorem dX10_up_62 : decode cX10_up 62 = .ok (.aload_n 0, 1) := by decide +kernel
theorem dX10_up_63 : decode cX10_up 63 = .ok (.getfield 28, 3) := by decide +kernel
theorem dX10_up_66 : decode cX10_up 66 = .ok (.iconst 2, 1) := by decide +kernel
theorem dX10_up_67 : decode cX10_up 67 = .ok (.iload_n 2, 1) := by decide +kernel
theorem dX10_up_68 : decode cX10_up 68 = .ok (.imul, 1) := by decide +kernel
theorem dX10_up_69 : decode cX10_up 69 = .ok (.iconst 1, 1) := by decide +kernel
theorem dX10_up_70 : decode cX10_up 70 = .ok (.iadd, 1) := by decide +kernel
theorem dX10_up_71 : decode cX10_up 71 = .ok (.iaload, 1) := by decide +kernel
theorem dX10_up_72 : decode cX10_up 72 = .ok (.if_icmp .ge 7, 3) := by decide +kernel
theorem dX10_up_75 : decode cX10_up 75 = .ok (.iload_n 3, 1) := by decide +kernel
theorem dX10_up_76 : decode cX10_up 76 = .ok (.goto 4, 3) := by decide +kernel
theorem dX10_up_79 : decode cX10_up 79 = .ok (.iload_n 2, 1) := by decide +kernel
theorem dX10_up_80 : decode cX10_up 80 = .ok (.istore_n 2, 1) := by decide +kernel
theorem dX10_up_81 : decode cX10_up 81 = .ok (.iinc 3 1, 3) := by decide +kernel
theorem dX10_up_84 : decode cX10_up 84 = .ok (.goto (-80), 3) := by decide +kernel
theorem dX10_up_87 : decode cX10_up 87 = .ok (.iload_n 2, 1) := by decide +kernel
theorem dX10_up_88 : decode cX10_up 88 = .ok (.ireturn, 1) := by decide +kernel
noncomputable def F10_up_b80 (kh : Int32 → Int32 → Option (Int32)) (v1 : Int32) (mm : Mem) (a3 : Int32) (s0 : Int32) : Option (Int32) :=
  kh s0 (a3 + (1 : Int32))
noncomputable def F10_up_b79 (kh : Int32 → Int32 → Option (Int32)) (v1 : Int32) (mm : Mem) (a2 : Int32) (a3 : Int32) : Option (Int32) :=
  (F10_up_b80 kh v1 mm) a3 a2
noncomputable def F10_up_b75 (kh : Int32 → Int32 → Option (Int32)) (v1 : Int32) (mm : Mem) (a3 : Int32) : Option (Int32) :=
  (F10_up_b80 kh v1 mm) a3 a3
noncomputable def F10_up_b40 (kh : Int32 → Int32 → Option (Int32)) (v1 : Int32) (mm : Mem) (a2 : Int32) (a3 : Int32) (s0 : Int32) : Option (Int32) :=
  (if s0 = (0 : Int32) then (F10_up_b79 kh v1 mm) a2 a3 else (if a2 = (-1 : Int32) then (F10_up_b75 kh v1 mm) a3 else (ck (((2 : Int32) * a3) + (1 : Int32)) 16 (ck (((2 : Int32) * a2) + (1 : Int32)) 16 (if (mm 7 (((2 : Int32) * a2) + (1 : Int32)).toNatClampNeg) ≤ (mm 7 (((2 : Int32) * a3) + (1 : Int32)).toNatClampNeg) then (F10_up_b79 kh v1 mm) a2 a3 else (F10_up_b75 kh v1 mm) a3)))))
noncomputable def F10_up_p4 (kh : Int32 → Int32 → Option (Int32)) (v1 : Int32) (mm : Mem) (a2 : Int32) (a3 : Int32) : Option (Int32) :=
  (if (mm 0 7) ≤ a3 then some a2 else (ck (((2 : Int32) * a3) + (1 : Int32)) 16 (ck (((2 : Int32) * v1) + (1 : Int32)) 16 (if (mm 7 (((2 : Int32) * a3) + (1 : Int32)).toNatClampNeg) ≤ (mm 7 (((2 : Int32) * v1) + (1 : Int32)).toNatClampNeg) then (F10_up_b40 kh v1 mm) a2 a3 (0 : Int32) else (F10_up_b40 kh v1 mm) a2 a3 (1 : Int32)))))
noncomputable def F10_up_h4 (v1 : Int32) (mm : Mem) : Nat → Int32 → Int32 → Option (Int32)
  | 0, _, _ => none
  | n + 1, a2, a3 => F10_up_p4 (F10_up_h4 v1 mm n) v1 mm a2 a3
noncomputable def F10_up (v1 : Int32) (mm : Mem) : Option (Int32) :=
  (F10_up_h4 v1 mm FU) (-1 : Int32) (0 : Int32)
set_option maxHeartbeats 4000000 in
set_option maxRecDepth 100000 in
theorem kX10_up (l : Launch) (g : GG) (v1 : Int32) (mc mm : Mem) (q : Int32) (hF : F10_up v1 mm = some q) : KI l yX10_up cX10_up 5 .int 0 0 g [.ref (g.1 108), .int v1] mc mm q (mc, mm) := by
  intro sz
  refine x_start (Qc := fun z => QI g z q (mc, mm)) (by decide +kernel) (Nat.le_of_ble_eq_true rfl) ?_ sz
  intro p e s m args below meth c ls Z hr hlk hP hl
  have hx := Z.1.1
  have hb := Z.1.2.1
  have hown := Z.1.2.2.2.1
  have hts := Z.1.2.2.2.2
  have hS : va_S (AA g s.heap.size) s.heap s.heap [] := va_S.rf
  have hl : lv_has ls 5 [(0, .ref (g.1 108)), (1, .int v1)] := hl
  unfold F10_up at hF
  have hL4 : ∀ n : Nat, ∀ (a2 : Int32) (a3 : Int32), F10_up_h4 v1 mm n a2 a3 = some q → ∀ (H : Heap) (locs : List Loc) (ls : Array Slot), lv_has ls 5 [(0, .ref (g.1 108)), (1, .int v1), (2, .int a2), (3, .int a3)] → va_P g.2.2.1 vwCl (wL g mc mm) H → va_S (AA g s.heap.size) s.heap H locs → W p l e { frames := 0, cells := 0, slots := 0, locals := 0 } s m args below meth c H locs 0 0 (MQ below (QI g s.heap.size q (mc, mm)) args s 0 0 (AA g s.heap.size)) (F0 m 4 ls []) := by
    intro n
    induction n with
    | zero => intro a2 a3 hF H locs ls hl hP hS; exact absurd hF (fun z => nomatch (show (none : Option _) = some q from z))
    | succ n ih =>
      generalize hkh : F10_up_h4 v1 mm n = kh at ih
      have hb80 : ∀ (a3 : Int32) (s0 : Int32), F10_up_b80 kh v1 mm a3 s0 = some q → ∀ (H : Heap) (locs : List Loc) (ls : Array Slot), lv_has ls 5 [(0, .ref (g.1 108)), (1, .int v1), (3, .int a3)] → va_P g.2.2.1 vwCl (wL g mc mm) H → va_S (AA g s.heap.size) s.heap H locs → W p l e { frames := 0, cells := 0, slots := 0, locals := 0 } s m args below meth c H locs 0 0 (MQ below (QI g s.heap.size q (mc, mm)) args s 0 0 (AA g s.heap.size)) (F0 m 80 ls [.int s0]) := by
        intro a3 s0 hF H locs ls hl hP hS
        unfold F10_up_b80 at hF
        refine lv_istore_n (lv' := [(2, .int s0), (0, .ref (g.1 108)), (1, .int v1), (3, .int a3)]) hx hb dX10_up_80 rfl hl (Nat.le_of_ble_eq_true rfl) rfl (fun ls hl => ?_)
        refine lv_iinc (lv' := [(3, .int (a3 + (1 : Int32))), (2, .int s0), (0, .ref (g.1 108)), (1, .int v1)]) (v := (a3 + (1 : Int32))) hx hb dX10_up_81 hl (k := 3) rfl (io_1 _) (Nat.le_of_ble_eq_true rfl) rfl (fun ls hl => ?_)
        refine lv_goto (tgt := 4) hx hb dX10_up_84 rfl ?_
        exact ih _ _ hF _ _ _ (lv_sub hl [2, 3, 1, 0] rfl) hP hS
      have hb79 : ∀ (a2 : Int32) (a3 : Int32), F10_up_b79 kh v1 mm a2 a3 = some q → ∀ (H : Heap) (locs : List Loc) (ls : Array Slot), lv_has ls 5 [(0, .ref (g.1 108)), (1, .int v1), (2, .int a2), (3, .int a3)] → va_P g.2.2.1 vwCl (wL g mc mm) H → va_S (AA g s.heap.size) s.heap H locs → W p l e { frames := 0, cells := 0, slots := 0, locals := 0 } s m args below meth c H locs 0 0 (MQ below (QI g s.heap.size q (mc, mm)) args s 0 0 (AA g s.heap.size)) (F0 m 79 ls []) := by
        intro a2 a3 hF H locs ls hl hP hS
        unfold F10_up_b79 at hF
        refine lv_iload_n hx hb dX10_up_79 rfl (lv_at hl 2 rfl) ?_
        exact hb80 _ _ hF _ _ _ (lv_sub hl [0, 1, 3] rfl) hP hS
      have hb75 : ∀ (a3 : Int32), F10_up_b75 kh v1 mm a3 = some q → ∀ (H : Heap) (locs : List Loc) (ls : Array Slot), lv_has ls 5 [(0, .ref (g.1 108)), (1, .int v1), (3, .int a3)] → va_P g.2.2.1 vwCl (wL g mc mm) H → va_S (AA g s.heap.size) s.heap H locs → W p l e { frames := 0, cells := 0, slots := 0, locals := 0 } s m args below meth c H locs 0 0 (MQ below (QI g s.heap.size q (mc, mm)) args s 0 0 (AA g s.heap.size)) (F0 m 75 ls []) := by
        intro a3 hF H locs ls hl hP hS
        unfold F10_up_b75 at hF
        refine lv_iload_n hx hb dX10_up_75 rfl (lv_at hl 2 rfl) ?_
        refine lv_goto (tgt := 80) hx hb dX10_up_76 rfl ?_
        exact hb80 _ _ hF _ _ _ (lv_sub hl [0, 1, 2] rfl) hP hS
      have hb40 : ∀ (a2 : Int32) (a3 : Int32) (s0 : Int32), F10_up_b40 kh v1 mm a2 a3 s0 = some q → ∀ (H : Heap) (locs : List Loc) (ls : Array Slot), lv_has ls 5 [(0, .ref (g.1 108)), (1, .int v1), (2, .int a2), (3, .int a3)] → va_P g.2.2.1 vwCl (wL g mc mm) H → va_S (AA g s.heap.size) s.heap H locs → W p l e { frames := 0, cells := 0, slots := 0, locals := 0 } s m args below meth c H locs 0 0 (MQ below (QI g s.heap.size q (mc, mm)) args s 0 0 (AA g s.heap.size)) (F0 m 40 ls [.int s0]) := by
        intro a2 a3 s0 hF H locs ls hl hP hS
        unfold F10_up_b40 at hF
        refine lv_istore (lv' := [(4, .int s0), (0, .ref (g.1 108)), (1, .int v1), (2, .int a2), (3, .int a3)]) hx hb dX10_up_40 hl (Nat.le_of_ble_eq_true rfl) rfl (fun ls hl => ?_)
        refine lv_iload hx hb dX10_up_42 (lv_at hl 0 rfl) ?_
        refine lv_if_eq (tgt := 79) hx hb dX10_up_44 rfl (fun hc => ?_) (fun hc => ?_)
        · have hF := (if_pos hc).symm.trans hF
          exact hb79 _ _ hF _ _ _ (lv_sub hl [1, 2, 3, 4] rfl) hP hS
        · have hF := (if_neg hc).symm.trans hF
          refine lv_iload_n hx hb dX10_up_47 rfl (lv_at hl 3 rfl) ?_
          refine lv_iconst (v := (-1 : Int32)) hx hb dX10_up_48 ic_m1 ?_
          refine lv_icmp_eq (tgt := 75) hx hb dX10_up_49 rfl (fun hc => ?_) (fun hc => ?_)
          · have hF := (if_pos hc).symm.trans hF
            exact hb75 _ hF _ _ _ (lv_sub hl [1, 2, 4] rfl) hP hS
          · have hF := (if_neg hc).symm.trans hF
            refine lv_aload_n hx hb dX10_up_52 rfl (lv_at hl 1 rfl) ?_
            refine gf10_8 Z hP wd_6_10 dX10_up_53 ?_
            refine lv_iconst (v := (2 : Int32)) hx hb dX10_up_56 ic_2 ?_
            refine lv_iload_n hx hb dX10_up_57 rfl (lv_at hl 4 rfl) ?_
            refine lv_imul hx hb dX10_up_58 ?_
            refine lv_iconst (v := (1 : Int32)) hx hb dX10_up_59 ic_1 ?_
            refine lv_iadd hx hb dX10_up_60 ?_
            obtain ⟨hi5, hF⟩ := ck_ok hF
            refine rM_ld Z hP 16 7 (by decide +kernel) hi5 dX10_up_61 ?_
            refine lv_aload_n hx hb dX10_up_62 rfl (lv_at hl 1 rfl) ?_
            refine gf10_8 Z hP wd_6_10 dX10_up_63 ?_
            refine lv_iconst (v := (2 : Int32)) hx hb dX10_up_66 ic_2 ?_
            refine lv_iload_n hx hb dX10_up_67 rfl (lv_at hl 3 rfl) ?_
            refine lv_imul hx hb dX10_up_68 ?_
            refine lv_iconst (v := (1 : Int32)) hx hb dX10_up_69 ic_1 ?_
            refine lv_iadd hx hb dX10_up_70 ?_
            obtain ⟨hi6, hF⟩ := ck_ok hF
            refine rM_ld Z hP 16 7 (by decide +kernel) hi6 dX10_up_71 ?_
            refine lv_icmp_ge (tgt := 79) hx hb dX10_up_72 rfl (fun hc => ?_) (fun hc => ?_)
            · have hF := (if_pos hc).symm.trans hF
              exact hb79 _ _ hF _ _ _ (lv_sub hl [1, 2, 3, 4] rfl) hP hS
            · have hF := (if_neg hc).symm.trans hF
              exact hb75 _ hF _ _ _ (lv_sub hl [1, 2, 4] rfl) hP hS
      intro a2 a3 hF H locs ls hl hP hS
      have hF : F10_up_p4 (F10_up_h4 v1 mm n) v1 mm a2 a3 = some q := hF
      rw [hkh] at hF
      unfold F10_up_p4 at hF
      refine lv_iload_n hx hb dX10_up_4 rfl (lv_at hl 3 rfl) ?_
      refine lv_aload_n hx hb dX10_up_5 rfl (lv_at hl 0 rfl) ?_
      refine gf10_7 Z hP wd_14_19 dX10_up_6 ?_
      refine lv_icmp_ge (tgt := 87) hx hb dX10_up_9 rfl (fun hc => ?_) (fun hc => ?_)
      · have hF := (if_pos hc).symm.trans hF
        refine lv_iload_n hx hb dX10_up_87 rfl (lv_at hl 2 rfl) ?_
        exact ret_I Z hr hlk hP hS hF dX10_up_88
      · have hF := (if_neg hc).symm.trans hF
        refine lv_aload_n hx hb dX10_up_12 rfl (lv_at hl 0 rfl) ?_
        refine gf10_8 Z hP wd_6_10 dX10_up_13 ?_
        refine lv_iconst (v := (2 : Int32)) hx hb dX10_up_16 ic_2 ?_
        refine lv_iload_n hx hb dX10_up_17 rfl (lv_at hl 3 rfl) ?_
        refine lv_imul hx hb dX10_up_18 ?_
        refine lv_iconst (v := (1 : Int32)) hx hb dX10_up_19 ic_1 ?_
        refine lv_iadd hx hb dX10_up_20 ?_
        obtain ⟨hi7, hF⟩ := ck_ok hF
        refine rM_ld Z hP 16 7 (by decide +kernel) hi7 dX10_up_21 ?_
        refine lv_aload_n hx hb dX10_up_22 rfl (lv_at hl 0 rfl) ?_
        refine gf10_8 Z hP wd_6_10 dX10_up_23 ?_
        refine lv_iconst (v := (2 : Int32)) hx hb dX10_up_26 ic_2 ?_
        refine lv_iload_n hx hb dX10_up_27 rfl (lv_at hl 1 rfl) ?_
        refine lv_imul hx hb dX10_up_28 ?_
        refine lv_iconst (v := (1 : Int32)) hx hb dX10_up_29 ic_1 ?_
        refine lv_iadd hx hb dX10_up_30 ?_
        obtain ⟨hi8, hF⟩ := ck_ok hF
        refine rM_ld Z hP 16 7 (by decide +kernel) hi8 dX10_up_31 ?_
        refine lv_icmp_le (tgt := 39) hx hb dX10_up_32 rfl (fun hc => ?_) (fun hc => ?_)
        · have hF := (if_pos hc).symm.trans hF
          refine lv_iconst (v := (0 : Int32)) hx hb dX10_up_39 ic_0 ?_
          exact hb40 _ _ _ hF _ _ _ (lv_sub hl [0, 1, 2, 3] rfl) hP hS
        · have hF := (if_neg hc).symm.trans hF
          refine lv_iconst (v := (1 : Int32)) hx hb dX10_up_35 ic_1 ?_
          refine lv_goto (tgt := 40) hx hb dX10_up_36 rfl ?_
          exact hb40 _ _ _ hF _ _ _ (lv_sub hl [0, 1, 2, 3] rfl) hP hS
  refine lv_iconst (v := (-1 : Int32)) hx hb dX10_up_0 ic_m1 ?_
  refine lv_istore_n (lv' := [(2, .int (-1 : Int32)), (0, .ref (g.1 108)), (1, .int v1)]) hx hb dX10_up_1 rfl hl (Nat.le_of_ble_eq_true rfl) rfl (fun ls hl => ?_)
  refine lv_iconst (v := (0 : Int32)) hx hb dX10_up_2 ic_0 ?_
  refine lv_istore_n (lv' := [(3, .int (0 : Int32)), (2, .int (-1 : Int32)), (0, .ref (g.1 108)), (1, .int v1)]) hx hb dX10_up_3 rfl hl (Nat.le_of_ble_eq_true rfl) rfl (fun ls hl => ?_)
  exact (hL4 FU) _ _ hF _ _ _ (lv_sub hl [2, 3, 1, 0] rfl) hP hS
theorem xX10_up {p : Program} {l : Launch} {e : Env} {R : Room} {s : State} {m : MethodId} {args : Array Value} {below : List Frame} {meth : Method} {c : Code} {H : Heap} {locs : List Loc} {Q : State → Prop} {cc : ByteArray} {nL : Nat} {own : String} {g : GG} {pc index : Nat} {ls : Array Slot} {rest : List Value} {mc mm : Mem} (Z : ZZ p s m args c cc nL own g) (hP : va_P g.2.2.1 vwCl (wL g mc mm) H) (hS : va_S (AA g s.heap.size) s.heap H locs) {v1 : Int32} {q : Int32} (hq : F10_up v1 mm = some q) (hlk : Cond.methodLink own index yX10_up ∈ wsL_law) (hsz : ls.size = nL) (hro : (rest.map fun v => v.category).sum ≤ 8) (hR : 0 + 1 ≤ R.frames ∧ 8 + (5 + 11) + 0 ≤ R.locals) (hdg : decode cc pc = .ok (.invokevirtual index, 3)) (kk : ∀ (H : Heap) (locs : List Loc), va_P g.2.2.1 vwCl (wL g mc mm) H → va_S (AA g s.heap.size) s.heap H locs → W p l e R s m args below meth c H locs 0 0 Q (F0 m (pc + 3) ls (.int q :: rest))) : W p l e R s m args below meth c H locs 0 0 Q (F0 m pc ls (.int v1 :: .ref (g.1 108) :: rest)) :=
  x_VI Z hP hS (kX10_up l g v1 mc mm q hq) (mO) (ci := 10) (by decide) rfl rfl mf_X10_up mv_X10_up hlk rfl rfl hsz hro hR hdg kk
theorem dX10_lastWell_0 : decode cX10_lastWell 0 = .ok (.iconst (-1), 1) := by decide +kernel
theorem dX10_lastWell_1 : decode cX10_lastWell 1 = .ok (.istore_n 1, 1) := by decide +kernel
theorem dX10_lastWell_2 : decode cX10_lastWell 2 = .ok (.iconst 0, 1) := by decide +kernel
theorem dX10_lastWell_3 : decode cX10_lastWell 3 = .ok (.istore_n 2, 1) := by decide +kernel
theorem dX10_lastWell_4 : decode cX10_lastWell 4 = .ok (.iload_n 2, 1) := by decide +kernel
theorem dX10_lastWell_5 : decode cX10_lastWell 5 = .ok (.aload_n 0, 1) := by decide +kernel
theorem dX10_lastWell_6 : decode cX10_lastWell 6 = .ok (.getfield 120, 3) := by decide +kernel
theorem dX10_lastWell_9 : decode cX10_lastWell 9 = .ok (.if_icmp .ge 43, 3) := by decide +kernel
theorem dX10_lastWell_12 : decode cX10_lastWell 12 = .ok (.iload_n 1, 1) := by decide +kernel
theorem dX10_lastWell_13 : decode cX10_lastWell 13 = .ok (.iconst (-1), 1) := by decide +kernel
theorem dX10_lastWell_14 : decode cX10_lastWell 14 = .ok (.if_icmp .eq 26, 3) := by decide +kernel
theorem dX10_lastWell_17 : decode cX10_lastWell 17 = .ok (.aload_n 0, 1) := by decide +kernel
theorem dX10_lastWell_18 : decode cX10_lastWell 18 = .ok (.getfield 28, 3) := by decide +kernel
theorem dX10_lastWell_21 : decode cX10_lastWell 21 = .ok (.iconst 2, 1) := by decide +kernel
theorem dX10_lastWell_22 : decode cX10_lastWell 22 = .ok (.iload_n 2, 1) := by decide +kernel
theorem dX10_lastWell_23 : decode cX10_lastWell 23 = .ok (.imul, 1) := by decide +kernel
theorem dX10_lastWell_24 : decode cX10_lastWell 24 = .ok (.iconst 1, 1) := by decide +kernel
theorem dX10_lastWell_25 : decode cX10_lastWell 25 = .ok (.iadd, 1) := by decide +kernel
theorem dX10_lastWell_26 : decode cX10_lastWell 26 = .ok (.iaload, 1) := by decide +kernel
theorem dX10_lastWell_27 : decode cX10_lastWell 27 = .ok (.aload_n 0, 1) := by decide +kernel
theorem dX10_lastWell_28 : decode cX10_lastWell 28 = .ok (.getfield 28, 3) := by decide +kernel
theorem dX10_lastWell_31 : decode cX10_lastWell 31 = .ok (.iconst 2, 1) := by decide +kernel
theorem dX10_lastWell_32 : decode cX10_lastWell 32 = .ok (.iload_n 1, 1) := by decide +kernel
theorem dX10_lastWell_33 : decode cX10_lastWell 33 = .ok (.imul, 1) := by decide +kernel
theorem dX10_lastWell_34 : decode cX10_lastWell 34 = .ok (.iconst 1, 1) := by decide +kernel
theorem dX10_lastWell_35 : decode cX10_lastWell 35 = .ok (.iadd, 1) := by decide +kernel
theorem dX10_lastWell_36 : decode cX10_lastWell 36 = .ok (.iaload, 1) := by decide +kernel
theorem dX10_lastWell_37 : decode cX10_lastWell 37 = .ok (.if_icmp .ge 7, 3) := by decide +kernel
theorem dX10_lastWell_40 : decode cX10_lastWell 40 = .ok (.iload_n 2, 1) := by decide +kernel
theorem dX10_lastWell_41 : decode cX10_lastWell 41 = .ok (.goto 4, 3) := by decide +kernel
theorem dX10_lastWell_44 : decode cX10_lastWell 44 = .ok (.iload_n 1, 1) := by decide +kernel
theorem dX10_lastWell_45 : decode cX10_lastWell 45 = .ok (.istore_n 1, 1) := by decide +kernel
theorem dX10_lastWell_46 : decode cX10_lastWell 46 = .ok (.iinc 2 1, 3) := by decide +kernel
theorem dX10_lastWell_49 : decode cX10_lastWell 49 = .ok (.goto (-45), 3) := by decide +kernel
theorem dX10_lastWell_52 : decode cX10_lastWell 52 = .ok (.iload_n 1, 1) := by decide +kernel
theorem dX10_lastWell_53 : decode cX10_lastWell 53 = .ok (.ireturn, 1) := by decide +kernel
noncomputable def F10_lastWell_b45 (kh : Int32 → Int32 → Option (Int32)) (mm : Mem) (a2 : Int32) (s0 : Int32) : Option (Int32) :=
  kh s0 (a2 + (1 : Int32))
noncomputable def F10_lastWell_b40 (kh : Int32 → Int32 → Option (Int32)) (mm : Mem) (a2 : Int32) : Option (Int32) :=
  (F10_lastWell_b45 kh mm) a2 a2
noncomputable def F10_lastWell_p4 (kh : Int32 → Int32 → Option (Int32)) (mm : Mem) (a1 : Int32) (a2 : Int32) : Option (Int32) :=
  (if (mm 0 7) ≤ a2 then some a1 else (if a1 = (-1 : Int32) then (F10_lastWell_b40 kh mm) a2 else (ck (((2 : Int32) * a2) + (1 : Int32)) 16 (ck (((2 : Int32) * a1) + (1 : Int32)) 16 (if (mm 7 (((2 : Int32) * a1) + (1 : Int32)).toNatClampNeg) ≤ (mm 7 (((2 : Int32) * a2) + (1 : Int32)).toNatClampNeg) then (F10_lastWell_b45 kh mm) a2 a1 else (F10_lastWell_b40 kh mm) a2)))))
noncomputable def F10_lastWell_h4 (mm : Mem) : Nat → Int32 → Int32 → Option (Int32)
  | 0, _, _ => none
  | n + 1, a1, a2 => F10_lastWell_p4 (F10_lastWell_h4 mm n) mm a1 a2
noncomputable def F10_lastWell (mm : Mem) : Option (Int32) :=
  (F10_lastWell_h4 mm FU) (-1 : Int32) (0 : Int32)
set_option maxHeartbeats 4000000 in
set_option maxRecDepth 100000 in
theorem kX10_lastWell (l : Launch) (g : GG) (mc mm : Mem) (q : Int32) (hF : F10_lastWell mm = some q) : KI l yX10_lastWell cX10_lastWell 3 .int 0 0 g [.ref (g.1 108)] mc mm q (mc, mm) := by
  intro sz
  refine x_start (Qc := fun z => QI g z q (mc, mm)) (by decide +kernel) (Nat.le_of_ble_eq_true rfl) ?_ sz
  intro p e s m args below meth c ls Z hr hlk hP hl
  have hx := Z.1.1
  have hb := Z.1.2.1
  have hown := Z.1.2.2.2.1
  have hts := Z.1.2.2.2.2
  have hS : va_S (AA g s.heap.size) s.heap s.heap [] := va_S.rf
  have hl : lv_has ls 3 [(0, .ref (g.1 108))] := hl
  unfold F10_lastWell at hF
  have hL4 : ∀ n : Nat, ∀ (a1 : Int32) (a2 : Int32), F10_lastWell_h4 mm n a1 a2 = some q → ∀ (H : Heap) (locs : List Loc) (ls : Array Slot), lv_has ls 3 [(0, .ref (g.1 108)), (1, .int a1), (2, .int a2)] → va_P g.2.2.1 vwCl (wL g mc mm) H → va_S (AA g s.heap.size) s.heap H locs → W p l e { frames := 0, cells := 0, slots := 0, locals := 0 } s m args below meth c H locs 0 0 (MQ below (QI g s.heap.size q (mc, mm)) args s 0 0 (AA g s.heap.size)) (F0 m 4 ls []) := by
    intro n
    induction n with
    | zero => intro a1 a2 hF H locs ls hl hP hS; exact absurd hF (fun z => nomatch (show (none : Option _) = some q from z))
    | succ n ih =>
      generalize hkh : F10_lastWell_h4 mm n = kh at ih
      have hb45 : ∀ (a2 : Int32) (s0 : Int32), F10_lastWell_b45 kh mm a2 s0 = some q → ∀ (H : Heap) (locs : List Loc) (ls : Array Slot), lv_has ls 3 [(0, .ref (g.1 108)), (2, .int a2)] → va_P g.2.2.1 vwCl (wL g mc mm) H → va_S (AA g s.heap.size) s.heap H locs → W p l e { frames := 0, cells := 0, slots := 0, locals := 0 } s m args below meth c H locs 0 0 (MQ below (QI g s.heap.size q (mc, mm)) args s 0 0 (AA g s.heap.size)) (F0 m 45 ls [.int s0]) := by
        intro a2 s0 hF H locs ls hl hP hS
        unfold F10_lastWell_b45 at hF
        refine lv_istore_n (lv' := [(1, .int s0), (0, .ref (g.1 108)), (2, .int a2)]) hx hb dX10_lastWell_45 rfl hl (Nat.le_of_ble_eq_true rfl) rfl (fun ls hl => ?_)
        refine lv_iinc (lv' := [(2, .int (a2 + (1 : Int32))), (1, .int s0), (0, .ref (g.1 108))]) (v := (a2 + (1 : Int32))) hx hb dX10_lastWell_46 hl (k := 2) rfl (io_1 _) (Nat.le_of_ble_eq_true rfl) rfl (fun ls hl => ?_)
        refine lv_goto (tgt := 4) hx hb dX10_lastWell_49 rfl ?_
        exact ih _ _ hF _ _ _ (lv_sub hl [2, 1, 0] rfl) hP hS
      have hb40 : ∀ (a2 : Int32), F10_lastWell_b40 kh mm a2 = some q → ∀ (H : Heap) (locs : List Loc) (ls : Array Slot), lv_has ls 3 [(0, .ref (g.1 108)), (2, .int a2)] → va_P g.2.2.1 vwCl (wL g mc mm) H → va_S (AA g s.heap.size) s.heap H locs → W p l e { frames := 0, cells := 0, slots := 0, locals := 0 } s m args below meth c H locs 0 0 (MQ below (QI g s.heap.size q (mc, mm)) args s 0 0 (AA g s.heap.size)) (F0 m 40 ls []) := by
        intro a2 hF H locs ls hl hP hS
        unfold F10_lastWell_b40 at hF
        refine lv_iload_n hx hb dX10_lastWell_40 rfl (lv_at hl 1 rfl) ?_
        refine lv_goto (tgt := 45) hx hb dX10_lastWell_41 rfl ?_
        exact hb45 _ _ hF _ _ _ (lv_sub hl [0, 1] rfl) hP hS
      intro a1 a2 hF H locs ls hl hP hS
      have hF : F10_lastWell_p4 (F10_lastWell_h4 mm n) mm a1 a2 = some q := hF
      rw [hkh] at hF
      unfold F10_lastWell_p4 at hF
      refine lv_iload_n hx hb dX10_lastWell_4 rfl (lv_at hl 2 rfl) ?_
      refine lv_aload_n hx hb dX10_lastWell_5 rfl (lv_at hl 0 rfl) ?_
      refine gf10_7 Z hP wd_14_19 dX10_lastWell_6 ?_
      refine lv_icmp_ge (tgt := 52) hx hb dX10_lastWell_9 rfl (fun hc => ?_) (fun hc => ?_)
      · have hF := (if_pos hc).symm.trans hF
        refine lv_iload_n hx hb dX10_lastWell_52 rfl (lv_at hl 1 rfl) ?_
        exact ret_I Z hr hlk hP hS hF dX10_lastWell_53
      · have hF := (if_neg hc).symm.trans hF
        refine lv_iload_n hx hb dX10_lastWell_12 rfl (lv_at hl 1 rfl) ?_
        refine lv_iconst (v := (-1 : Int32)) hx hb dX10_lastWell_13 ic_m1 ?_
        refine lv_icmp_eq (tgt := 40) hx hb dX10_lastWell_14 rfl (fun hc => ?_) (fun hc => ?_)
        · have hF := (if_pos hc).symm.trans hF
          exact hb40 _ hF _ _ _ (lv_sub hl [0, 2] rfl) hP hS
        · have hF := (if_neg hc).symm.trans hF
          refine lv_aload_n hx hb dX10_lastWell_17 rfl (lv_at hl 0 rfl) ?_
          refine gf10_8 Z hP wd_6_10 dX10_lastWell_18 ?_
          refine lv_iconst (v := (2 : Int32)) hx hb dX10_lastWell_21 ic_2 ?_
          refine lv_iload_n hx hb dX10_lastWell_22 rfl (lv_at hl 2 rfl) ?_
          refine lv_imul hx hb dX10_lastWell_23 ?_
          refine lv_iconst (v := (1 : Int32)) hx hb dX10_lastWell_24 ic_1 ?_
          refine lv_iadd hx hb dX10_lastWell_25 ?_
          obtain ⟨hi3, hF⟩ := ck_ok hF
          refine rM_ld Z hP 16 7 (by decide +kernel) hi3 dX10_lastWell_26 ?_
          refine lv_aload_n hx hb dX10_lastWell_27 rfl (lv_at hl 0 rfl) ?_
          refine gf10_8 Z hP wd_6_10 dX10_lastWell_28 ?_
          refine lv_iconst (v := (2 : Int32)) hx hb dX10_lastWell_31 ic_2 ?_
          refine lv_iload_n hx hb dX10_lastWell_32 rfl (lv_at hl 1 rfl) ?_
          refine lv_imul hx hb dX10_lastWell_33 ?_
          refine lv_iconst (v := (1 : Int32)) hx hb dX10_lastWell_34 ic_1 ?_
          refine lv_iadd hx hb dX10_lastWell_35 ?_
          obtain ⟨hi4, hF⟩ := ck_ok hF
          refine rM_ld Z hP 16 7 (by decide +kernel) hi4 dX10_lastWell_36 ?_
          refine lv_icmp_ge (tgt := 44) hx hb dX10_lastWell_37 rfl (fun hc => ?_) (fun hc => ?_)
          · have hF := (if_pos hc).symm.trans hF
            refine lv_iload_n hx hb dX10_lastWell_44 rfl (lv_at hl 1 rfl) ?_
            exact hb45 _ _ hF _ _ _ (lv_sub hl [0, 2] rfl) hP hS
          · have hF := (if_neg hc).symm.trans hF
            exact hb40 _ hF _ _ _ (lv_sub hl [0, 2] rfl) hP hS
  refine lv_iconst (v := (-1 : Int32)) hx hb dX10_lastWell_0 ic_m1 ?_
  refine lv_istore_n (lv' := [(1, .int (-1 : Int32)), (0, .ref (g.1 108))]) hx hb dX10_lastWell_1 rfl hl (Nat.le_of_ble_eq_true rfl) rfl (fun ls hl => ?_)
  refine lv_iconst (v := (0 : Int32)) hx hb dX10_lastWell_2 ic_0 ?_
  refine lv_istore_n (lv' := [(2, .int (0 : Int32)), (1, .int (-1 : Int32)), (0, .ref (g.1 108))]) hx hb dX10_lastWell_3 rfl hl (Nat.le_of_ble_eq_true rfl) rfl (fun ls hl => ?_)
  exact (hL4 FU) _ _ hF _ _ _ (lv_sub hl [2, 1, 0] rfl) hP hS
theorem xX10_lastWell {p : Program} {l : Launch} {e : Env} {R : Room} {s : State} {m : MethodId} {args : Array Value} {below : List Frame} {meth : Method} {c : Code} {H : Heap} {locs : List Loc} {Q : State → Prop} {cc : ByteArray} {nL : Nat} {own : String} {g : GG} {pc index : Nat} {ls : Array Slot} {rest : List Value} {mc mm : Mem} (Z : ZZ p s m args c cc nL own g) (hP : va_P g.2.2.1 vwCl (wL g mc mm) H) (hS : va_S (AA g s.heap.size) s.heap H locs) {q : Int32} (hq : F10_lastWell mm = some q) (hlk : Cond.methodLink own index yX10_lastWell ∈ wsL_law) (hsz : ls.size = nL) (hro : (rest.map fun v => v.category).sum ≤ 8) (hR : 0 + 1 ≤ R.frames ∧ 8 + (3 + 11) + 0 ≤ R.locals) (hdg : decode cc pc = .ok (.invokevirtual index, 3)) (kk : ∀ (H : Heap) (locs : List Loc), va_P g.2.2.1 vwCl (wL g mc mm) H → va_S (AA g s.heap.size) s.heap H locs → W p l e R s m args below meth c H locs 0 0 Q (F0 m (pc + 3) ls (.int q :: rest))) : W p l e R s m args below meth c H locs 0 0 Q (F0 m pc ls (.ref (g.1 108) :: rest)) :=
  x_VI Z hP hS (kX10_lastWell l g mc mm q hq) (mO) (ci := 10) (by decide) rfl rfl mf_X10_lastWell mv_X10_lastWell hlk rfl rfl hsz hro hR hdg kk
