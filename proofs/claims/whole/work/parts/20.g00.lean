theorem dX0_clear_0 : decode cX0_clear 0 = .ok (.aload_n 0, 1) := by decide +kernel
theorem dX0_clear_1 : decode cX0_clear 1 = .ok (.iconst (-1), 1) := by decide +kernel
theorem dX0_clear_2 : decode cX0_clear 2 = .ok (.putfield 9, 3) := by decide +kernel
theorem dX0_clear_5 : decode cX0_clear 5 = .ok (.aload_n 0, 1) := by decide +kernel
theorem dX0_clear_6 : decode cX0_clear 6 = .ok (.iconst (-1), 1) := by decide +kernel
theorem dX0_clear_7 : decode cX0_clear 7 = .ok (.putfield 15, 3) := by decide +kernel
theorem dX0_clear_10 : decode cX0_clear 10 = .ok (.aload_n 0, 1) := by decide +kernel
theorem dX0_clear_11 : decode cX0_clear 11 = .ok (.iconst (-1), 1) := by decide +kernel
theorem dX0_clear_12 : decode cX0_clear 12 = .ok (.putfield 18, 3) := by decide +kernel
theorem dX0_clear_15 : decode cX0_clear 15 = .ok (.return_, 1) := by decide +kernel
noncomputable def F0_clear (v0 : Nat) (mc : Mem) : Option (Mem) :=
  some (mset (mset (mset mc v0 0 (-1 : Int32)) v0 1 (-1 : Int32)) v0 2 (-1 : Int32))
set_option maxHeartbeats 4000000 in
set_option maxRecDepth 100000 in
theorem kX0_clear (l : Launch) (g : GG) (v0 : Nat) (h0 : isO 0 v0) (mc mm : Mem) (q : Mem) (hF : F0_clear v0 mc = some q) : KV l yX0_clear cX0_clear 1 0 0 g [.ref (g.1 v0)] mc mm (q, mm) := by
  intro sz
  refine x_start (Qc := fun z => QV g z (q, mm)) (by decide +kernel) (Nat.le_of_ble_eq_true rfl) ?_ sz
  intro p e s m args below meth c ls Z hr hlk hP hl
  have hx := Z.1.1
  have hb := Z.1.2.1
  have hown := Z.1.2.2.2.1
  have hts := Z.1.2.2.2.2
  have hS : va_S (AA g s.heap.size) s.heap s.heap [] := va_S.rf
  have hl : lv_has ls 1 [(0, .ref (g.1 v0))] := hl
  unfold F0_clear at hF
  refine lv_aload_n hx hb dX0_clear_0 rfl (lv_at hl 0 rfl) ?_
  refine lv_iconst (v := (-1 : Int32)) hx hb dX0_clear_1 ic_m1 ?_
  refine pf0_0 Z hP hS h0 wd_5_21 dX0_clear_2 (fun H locs hP hS => ?_)
  refine lv_aload_n hx hb dX0_clear_5 rfl (lv_at hl 0 rfl) ?_
  refine lv_iconst (v := (-1 : Int32)) hx hb dX0_clear_6 ic_m1 ?_
  refine pf0_1 Z hP hS h0 wd_5_22 dX0_clear_7 (fun H locs hP hS => ?_)
  refine lv_aload_n hx hb dX0_clear_10 rfl (lv_at hl 0 rfl) ?_
  refine lv_iconst (v := (-1 : Int32)) hx hb dX0_clear_11 ic_m1 ?_
  refine pf0_2 Z hP hS h0 wd_5_23 dX0_clear_12 (fun H locs hP hS => ?_)
  exact ret_VWC Z hr hlk hP hS hF dX0_clear_15
theorem xX0_clear {p : Program} {l : Launch} {e : Env} {R : Room} {s : State} {m : MethodId} {args : Array Value} {below : List Frame} {meth : Method} {c : Code} {H : Heap} {locs : List Loc} {Q : State → Prop} {cc : ByteArray} {nL : Nat} {own : String} {g : GG} {pc index : Nat} {ls : Array Slot} {rest : List Value} {mc mm : Mem} (Z : ZZ p s m args c cc nL own g) (hP : va_P g.2.2.1 vwCl (wL g mc mm) H) (hS : va_S (AA g s.heap.size) s.heap H locs) {v0 : Nat} (h0 : isO 0 v0) {q : Mem} (hq : F0_clear v0 mc = some q) (hlk : Cond.methodLink own index yX0_clear ∈ wsL_law) (hsz : ls.size = nL) (hro : (rest.map fun v => v.category).sum ≤ 8) (hR : 0 + 1 ≤ R.frames ∧ 8 + (1 + 11) + 0 ≤ R.locals) (hdg : decode cc pc = .ok (.invokevirtual index, 3)) (kk : ∀ (H : Heap) (locs : List Loc), va_P g.2.2.1 vwCl (wL g q mm) H → va_S (AA g s.heap.size) s.heap H locs → W p l e R s m args below meth c H locs 0 0 Q (F0 m (pc + 3) ls (rest))) : W p l e R s m args below meth c H locs 0 0 Q (F0 m pc ls (.ref (g.1 v0) :: rest)) :=
  x_VV Z hP hS (kX0_clear l g v0 h0 mc mm q hq) (isO_w h0) (ci := 0) (by decide) rfl rfl mf_X0_clear mv_X0_clear hlk rfl rfl hsz hro hR hdg kk
theorem dX0_offer_0 : decode cX0_offer 0 = .ok (.iload_n 3, 1) := by decide +kernel
theorem dX0_offer_1 : decode cX0_offer 1 = .ok (.aload_n 0, 1) := by decide +kernel
theorem dX0_offer_2 : decode cX0_offer 2 = .ok (.getfield 18, 3) := by decide +kernel
theorem dX0_offer_5 : decode cX0_offer 5 = .ok (.if_icmp .le 18, 3) := by decide +kernel
theorem dX0_offer_8 : decode cX0_offer 8 = .ok (.aload_n 0, 1) := by decide +kernel
theorem dX0_offer_9 : decode cX0_offer 9 = .ok (.iload_n 1, 1) := by decide +kernel
theorem dX0_offer_10 : decode cX0_offer 10 = .ok (.putfield 9, 3) := by decide +kernel
theorem dX0_offer_13 : decode cX0_offer 13 = .ok (.aload_n 0, 1) := by decide +kernel
theorem dX0_offer_14 : decode cX0_offer 14 = .ok (.iload_n 2, 1) := by decide +kernel
theorem dX0_offer_15 : decode cX0_offer 15 = .ok (.putfield 15, 3) := by decide +kernel
theorem dX0_offer_18 : decode cX0_offer 18 = .ok (.aload_n 0, 1) := by decide +kernel
theorem dX0_offer_19 : decode cX0_offer 19 = .ok (.iload_n 3, 1) := by decide +kernel
theorem dX0_offer_20 : decode cX0_offer 20 = .ok (.putfield 18, 3) := by decide +kernel
theorem dX0_offer_23 : decode cX0_offer 23 = .ok (.return_, 1) := by decide +kernel
noncomputable def F0_offer (v0 : Nat) (v1 : Int32) (v2 : Int32) (v3 : Int32) (mc : Mem) : Option (Mem) :=
  (if v3 ≤ (mc v0 2) then some mc else some (mset (mset (mset mc v0 0 v1) v0 1 v2) v0 2 v3))
set_option maxHeartbeats 4000000 in
set_option maxRecDepth 100000 in
theorem kX0_offer (l : Launch) (g : GG) (v0 : Nat) (v1 : Int32) (v2 : Int32) (v3 : Int32) (h0 : isO 0 v0) (mc mm : Mem) (q : Mem) (hF : F0_offer v0 v1 v2 v3 mc = some q) : KV l yX0_offer cX0_offer 4 0 0 g [.ref (g.1 v0), .int v1, .int v2, .int v3] mc mm (q, mm) := by
  intro sz
  refine x_start (Qc := fun z => QV g z (q, mm)) (by decide +kernel) (Nat.le_of_ble_eq_true rfl) ?_ sz
  intro p e s m args below meth c ls Z hr hlk hP hl
  have hx := Z.1.1
  have hb := Z.1.2.1
  have hown := Z.1.2.2.2.1
  have hts := Z.1.2.2.2.2
  have hS : va_S (AA g s.heap.size) s.heap s.heap [] := va_S.rf
  have hl : lv_has ls 4 [(0, .ref (g.1 v0)), (1, .int v1), (2, .int v2), (3, .int v3)] := hl
  unfold F0_offer at hF
  refine lv_iload_n hx hb dX0_offer_0 rfl (lv_at hl 3 rfl) ?_
  refine lv_aload_n hx hb dX0_offer_1 rfl (lv_at hl 0 rfl) ?_
  refine gf0_2 Z hP h0 wd_5_23 dX0_offer_2 ?_
  refine lv_icmp_le (tgt := 23) hx hb dX0_offer_5 rfl (fun hc => ?_) (fun hc => ?_)
  · have hF := (if_pos hc).symm.trans hF
    exact ret_VWC Z hr hlk hP hS hF dX0_offer_23
  · have hF := (if_neg hc).symm.trans hF
    refine lv_aload_n hx hb dX0_offer_8 rfl (lv_at hl 0 rfl) ?_
    refine lv_iload_n hx hb dX0_offer_9 rfl (lv_at hl 1 rfl) ?_
    refine pf0_0 Z hP hS h0 wd_5_21 dX0_offer_10 (fun H locs hP hS => ?_)
    refine lv_aload_n hx hb dX0_offer_13 rfl (lv_at hl 0 rfl) ?_
    refine lv_iload_n hx hb dX0_offer_14 rfl (lv_at hl 2 rfl) ?_
    refine pf0_1 Z hP hS h0 wd_5_22 dX0_offer_15 (fun H locs hP hS => ?_)
    refine lv_aload_n hx hb dX0_offer_18 rfl (lv_at hl 0 rfl) ?_
    refine lv_iload_n hx hb dX0_offer_19 rfl (lv_at hl 3 rfl) ?_
    refine pf0_2 Z hP hS h0 wd_5_23 dX0_offer_20 (fun H locs hP hS => ?_)
    exact ret_VWC Z hr hlk hP hS hF dX0_offer_23
theorem xX0_offer {p : Program} {l : Launch} {e : Env} {R : Room} {s : State} {m : MethodId} {args : Array Value} {below : List Frame} {meth : Method} {c : Code} {H : Heap} {locs : List Loc} {Q : State → Prop} {cc : ByteArray} {nL : Nat} {own : String} {g : GG} {pc index : Nat} {ls : Array Slot} {rest : List Value} {mc mm : Mem} (Z : ZZ p s m args c cc nL own g) (hP : va_P g.2.2.1 vwCl (wL g mc mm) H) (hS : va_S (AA g s.heap.size) s.heap H locs) {v0 : Nat} {v1 : Int32} {v2 : Int32} {v3 : Int32} (h0 : isO 0 v0) {q : Mem} (hq : F0_offer v0 v1 v2 v3 mc = some q) (hlk : Cond.methodLink own index yX0_offer ∈ wsL_law) (hsz : ls.size = nL) (hro : (rest.map fun v => v.category).sum ≤ 8) (hR : 0 + 1 ≤ R.frames ∧ 8 + (4 + 11) + 0 ≤ R.locals) (hdg : decode cc pc = .ok (.invokevirtual index, 3)) (kk : ∀ (H : Heap) (locs : List Loc), va_P g.2.2.1 vwCl (wL g q mm) H → va_S (AA g s.heap.size) s.heap H locs → W p l e R s m args below meth c H locs 0 0 Q (F0 m (pc + 3) ls (rest))) : W p l e R s m args below meth c H locs 0 0 Q (F0 m pc ls (.int v3 :: .int v2 :: .int v1 :: .ref (g.1 v0) :: rest)) :=
  x_VV Z hP hS (kX0_offer l g v0 v1 v2 v3 h0 mc mm q hq) (isO_w h0) (ci := 0) (by decide) rfl rfl mf_X0_offer mv_X0_offer hlk rfl rfl hsz hro hR hdg kk
theorem dX1_add_0 : decode cX1_add 0 = .ok (.aload_n 0, 1) := by decide +kernel
theorem dX1_add_1 : decode cX1_add 1 = .ok (.getfield 21, 3) := by decide +kernel
theorem dX1_add_4 : decode cX1_add 4 = .ok (.bipush 8, 2) := by decide +kernel
theorem dX1_add_6 : decode cX1_add 6 = .ok (.if_icmp .lt 5, 3) := by decide +kernel
theorem dX1_add_9 : decode cX1_add 9 = .ok (.iconst 0, 1) := by decide +kernel
theorem dX1_add_10 : decode cX1_add 10 = .ok (.ireturn, 1) := by decide +kernel
theorem dX1_add_11 : decode cX1_add 11 = .ok (.aload_n 0, 1) := by decide +kernel
theorem dX1_add_12 : decode cX1_add 12 = .ok (.getfield 9, 3) := by decide +kernel
theorem dX1_add_15 : decode cX1_add 15 = .ok (.aload_n 0, 1) := by decide +kernel
theorem dX1_add_16 : decode cX1_add 16 = .ok (.getfield 21, 3) := by decide +kernel
theorem dX1_add_19 : decode cX1_add 19 = .ok (.iload_n 1, 1) := by decide +kernel
theorem dX1_add_20 : decode cX1_add 20 = .ok (.iastore, 1) := by decide +kernel
theorem dX1_add_21 : decode cX1_add 21 = .ok (.aload_n 0, 1) := by decide +kernel
theorem dX1_add_22 : decode cX1_add 22 = .ok (.getfield 15, 3) := by decide +kernel
theorem dX1_add_25 : decode cX1_add 25 = .ok (.aload_n 0, 1) := by decide +kernel
theorem dX1_add_26 : decode cX1_add 26 = .ok (.getfield 21, 3) := by decide +kernel
theorem dX1_add_29 : decode cX1_add 29 = .ok (.iload_n 2, 1) := by decide +kernel
theorem dX1_add_30 : decode cX1_add 30 = .ok (.iastore, 1) := by decide +kernel
theorem dX1_add_31 : decode cX1_add 31 = .ok (.aload_n 0, 1) := by decide +kernel
theorem dX1_add_32 : decode cX1_add 32 = .ok (.getfield 18, 3) := by decide +kernel
theorem dX1_add_35 : decode cX1_add 35 = .ok (.aload_n 0, 1) := by decide +kernel
theorem dX1_add_36 : decode cX1_add 36 = .ok (.getfield 21, 3) := by decide +kernel
theorem dX1_add_39 : decode cX1_add 39 = .ok (.iload_n 3, 1) := by decide +kernel
theorem dX1_add_40 : decode cX1_add 40 = .ok (.iastore, 1) := by decide +kernel
theorem dX1_add_41 : decode cX1_add 41 = .ok (.aload_n 0, 1) := by decide +kernel
theorem dX1_add_42 : decode cX1_add 42 = .ok (.dup, 1) := by decide +kernel
theorem dX1_add_43 : decode cX1_add 43 = .ok (.getfield 21, 3) := by decide +kernel
theorem dX1_add_46 : decode cX1_add 46 = .ok (.iconst 1, 1) := by decide +kernel
theorem dX1_add_47 : decode cX1_add 47 = .ok (.iadd, 1) := by decide +kernel
theorem dX1_add_48 : decode cX1_add 48 = .ok (.putfield 21, 3) := by decide +kernel
theorem dX1_add_51 : decode cX1_add 51 = .ok (.iconst 1, 1) := by decide +kernel
theorem dX1_add_52 : decode cX1_add 52 = .ok (.ireturn, 1) := by decide +kernel
noncomputable def F1_add (v0 : Nat) (v1 : Int32) (v2 : Int32) (v3 : Int32) (mc : Mem) : Option (Int32 × Mem) :=
  (if (mc v0 3) < (8 : Int32) then (ck (mc v0 3) 8 (lt (mset mc (v0 + 1) (mc v0 3).toNatClampNeg v1) (fun M8 => (ck (M8 v0 3) 8 (lt (mset M8 (v0 + 2) (M8 v0 3).toNatClampNeg v2) (fun M10 => (ck (M10 v0 3) 8 (lt (mset M10 (v0 + 3) (M10 v0 3).toNatClampNeg v3) (fun M12 => (some ((1 : Int32), (mset M12 v0 3 ((M12 v0 3) + (1 : Int32)))))))))))))) else some ((0 : Int32), mc))
set_option maxHeartbeats 4000000 in
set_option maxRecDepth 100000 in
theorem kX1_add (l : Launch) (g : GG) (v0 : Nat) (v1 : Int32) (v2 : Int32) (v3 : Int32) (h0 : isO 1 v0) (mc mm : Mem) (q : Int32 × Mem) (hF : F1_add v0 v1 v2 v3 mc = some q) : KI l yX1_add cX1_add 4 .boolean 0 0 g [.ref (g.1 v0), .int v1, .int v2, .int v3] mc mm q.1 (q.2, mm) := by
  intro sz
  refine x_start (Qc := fun z => QI g z q.1 (q.2, mm)) (by decide +kernel) (Nat.le_of_ble_eq_true rfl) ?_ sz
  intro p e s m args below meth c ls Z hr hlk hP hl
  have hx := Z.1.1
  have hb := Z.1.2.1
  have hown := Z.1.2.2.2.1
  have hts := Z.1.2.2.2.2
  have hS : va_S (AA g s.heap.size) s.heap s.heap [] := va_S.rf
  have hl : lv_has ls 4 [(0, .ref (g.1 v0)), (1, .int v1), (2, .int v2), (3, .int v3)] := hl
  unfold F1_add at hF
  refine lv_aload_n hx hb dX1_add_0 rfl (lv_at hl 0 rfl) ?_
  refine gf1_3 Z hP h0 wd_32_8 dX1_add_1 ?_
  refine lv_bipush (v := (8 : Int32)) hx hb dX1_add_4 bp_8 ?_
  refine lv_icmp_lt (tgt := 11) hx hb dX1_add_6 rfl (fun hc => ?_) (fun hc => ?_)
  · have hF := (if_pos hc).symm.trans hF
    refine lv_aload_n hx hb dX1_add_11 rfl (lv_at hl 0 rfl) ?_
    refine gf1_0 Z hP h0 wd_4_20 dX1_add_12 ?_
    refine lv_aload_n hx hb dX1_add_15 rfl (lv_at hl 0 rfl) ?_
    refine gf1_3 Z hP h0 wd_32_8 dX1_add_16 ?_
    refine lv_iload_n hx hb dX1_add_19 rfl (lv_at hl 1 rfl) ?_
    obtain ⟨hi7, hF⟩ := ck_ok hF
    refine ra_st Z hP hS (ia_1_0 h0) hi7 dX1_add_20 (fun H locs hP hS => ?_)
    refine lv_aload_n hx hb dX1_add_21 rfl (lv_at hl 0 rfl) ?_
    refine gf1_1 Z hP h0 wd_4_21 dX1_add_22 ?_
    refine lv_aload_n hx hb dX1_add_25 rfl (lv_at hl 0 rfl) ?_
    obtain ⟨M8, eM8, hF⟩ := lt_ok hF
    have hP : va_P g.2.2.1 vwCl (wL g M8 mm) H := by rw [eM8]; exact hP
    refine gf1_3 Z hP h0 wd_32_8 dX1_add_26 ?_
    refine lv_iload_n hx hb dX1_add_29 rfl (lv_at hl 2 rfl) ?_
    obtain ⟨hi9, hF⟩ := ck_ok hF
    refine ra_st Z hP hS (ia_1_1 h0) hi9 dX1_add_30 (fun H locs hP hS => ?_)
    refine lv_aload_n hx hb dX1_add_31 rfl (lv_at hl 0 rfl) ?_
    refine gf1_2 Z hP h0 wd_4_22 dX1_add_32 ?_
    refine lv_aload_n hx hb dX1_add_35 rfl (lv_at hl 0 rfl) ?_
    obtain ⟨M10, eM10, hF⟩ := lt_ok hF
    have hP : va_P g.2.2.1 vwCl (wL g M10 mm) H := by rw [eM10]; exact hP
    refine gf1_3 Z hP h0 wd_32_8 dX1_add_36 ?_
    refine lv_iload_n hx hb dX1_add_39 rfl (lv_at hl 3 rfl) ?_
    obtain ⟨hi11, hF⟩ := ck_ok hF
    refine ra_st Z hP hS (ia_1_2 h0) hi11 dX1_add_40 (fun H locs hP hS => ?_)
    refine lv_aload_n hx hb dX1_add_41 rfl (lv_at hl 0 rfl) ?_
    refine lv_dup hx hb dX1_add_42 rfl ?_
    obtain ⟨M12, eM12, hF⟩ := lt_ok hF
    have hP : va_P g.2.2.1 vwCl (wL g M12 mm) H := by rw [eM12]; exact hP
    refine gf1_3 Z hP h0 wd_32_8 dX1_add_43 ?_
    refine lv_iconst (v := (1 : Int32)) hx hb dX1_add_46 ic_1 ?_
    refine lv_iadd hx hb dX1_add_47 ?_
    refine pf1_3 Z hP hS h0 wd_32_8 dX1_add_48 (fun H locs hP hS => ?_)
    refine lv_iconst (v := (1 : Int32)) hx hb dX1_add_51 ic_1 ?_
    exact ret_ZWC Z hr hlk hP hS (Or.inr rfl) hF dX1_add_52
  · have hF := (if_neg hc).symm.trans hF
    refine lv_iconst (v := (0 : Int32)) hx hb dX1_add_9 ic_0 ?_
    exact ret_ZWC Z hr hlk hP hS (Or.inl rfl) hF dX1_add_10
theorem xX1_add {p : Program} {l : Launch} {e : Env} {R : Room} {s : State} {m : MethodId} {args : Array Value} {below : List Frame} {meth : Method} {c : Code} {H : Heap} {locs : List Loc} {Q : State → Prop} {cc : ByteArray} {nL : Nat} {own : String} {g : GG} {pc index : Nat} {ls : Array Slot} {rest : List Value} {mc mm : Mem} (Z : ZZ p s m args c cc nL own g) (hP : va_P g.2.2.1 vwCl (wL g mc mm) H) (hS : va_S (AA g s.heap.size) s.heap H locs) {v0 : Nat} {v1 : Int32} {v2 : Int32} {v3 : Int32} (h0 : isO 1 v0) {q : Int32 × Mem} (hq : F1_add v0 v1 v2 v3 mc = some q) (hlk : Cond.methodLink own index yX1_add ∈ wsL_law) (hsz : ls.size = nL) (hro : (rest.map fun v => v.category).sum ≤ 8) (hR : 0 + 1 ≤ R.frames ∧ 8 + (4 + 11) + 0 ≤ R.locals) (hdg : decode cc pc = .ok (.invokevirtual index, 3)) (kk : ∀ (H : Heap) (locs : List Loc), va_P g.2.2.1 vwCl (wL g q.2 mm) H → va_S (AA g s.heap.size) s.heap H locs → W p l e R s m args below meth c H locs 0 0 Q (F0 m (pc + 3) ls (.int q.1 :: rest))) : W p l e R s m args below meth c H locs 0 0 Q (F0 m pc ls (.int v3 :: .int v2 :: .int v1 :: .ref (g.1 v0) :: rest)) :=
  x_VI Z hP hS (kX1_add l g v0 v1 v2 v3 h0 mc mm q hq) (isO_w h0) (ci := 1) (by decide) rfl rfl mf_X1_add mv_X1_add hlk rfl rfl hsz hro hR hdg kk
theorem dX2_add_0 : decode cX2_add 0 = .ok (.aload_n 0, 1) := by decide +kernel
theorem dX2_add_1 : decode cX2_add 1 = .ok (.getfield 21, 3) := by decide +kernel
theorem dX2_add_4 : decode cX2_add 4 = .ok (.bipush 8, 2) := by decide +kernel
theorem dX2_add_6 : decode cX2_add 6 = .ok (.if_icmp .lt 5, 3) := by decide +kernel
theorem dX2_add_9 : decode cX2_add 9 = .ok (.iconst 0, 1) := by decide +kernel
theorem dX2_add_10 : decode cX2_add 10 = .ok (.ireturn, 1) := by decide +kernel
theorem dX2_add_11 : decode cX2_add 11 = .ok (.aload_n 0, 1) := by decide +kernel
theorem dX2_add_12 : decode cX2_add 12 = .ok (.getfield 9, 3) := by decide +kernel
theorem dX2_add_15 : decode cX2_add 15 = .ok (.aload_n 0, 1) := by decide +kernel
theorem dX2_add_16 : decode cX2_add 16 = .ok (.getfield 21, 3) := by decide +kernel
theorem dX2_add_19 : decode cX2_add 19 = .ok (.iload_n 1, 1) := by decide +kernel
theorem dX2_add_20 : decode cX2_add 20 = .ok (.iastore, 1) := by decide +kernel
theorem dX2_add_21 : decode cX2_add 21 = .ok (.aload_n 0, 1) := by decide +kernel
theorem dX2_add_22 : decode cX2_add 22 = .ok (.getfield 15, 3) := by decide +kernel
theorem dX2_add_25 : decode cX2_add 25 = .ok (.aload_n 0, 1) := by decide +kernel
theorem dX2_add_26 : decode cX2_add 26 = .ok (.getfield 21, 3) := by decide +kernel
theorem dX2_add_29 : decode cX2_add 29 = .ok (.iload_n 2, 1) := by decide +kernel
theorem dX2_add_30 : decode cX2_add 30 = .ok (.iastore, 1) := by decide +kernel
theorem dX2_add_31 : decode cX2_add 31 = .ok (.aload_n 0, 1) := by decide +kernel
theorem dX2_add_32 : decode cX2_add 32 = .ok (.getfield 18, 3) := by decide +kernel
theorem dX2_add_35 : decode cX2_add 35 = .ok (.aload_n 0, 1) := by decide +kernel
theorem dX2_add_36 : decode cX2_add 36 = .ok (.getfield 21, 3) := by decide +kernel
theorem dX2_add_39 : decode cX2_add 39 = .ok (.iload_n 3, 1) := by decide +kernel
theorem dX2_add_40 : decode cX2_add 40 = .ok (.iastore, 1) := by decide +kernel
theorem dX2_add_41 : decode cX2_add 41 = .ok (.aload_n 0, 1) := by decide +kernel
theorem dX2_add_42 : decode cX2_add 42 = .ok (.dup, 1) := by decide +kernel
theorem dX2_add_43 : decode cX2_add 43 = .ok (.getfield 21, 3) := by decide +kernel
theorem dX2_add_46 : decode cX2_add 46 = .ok (.iconst 1, 1) := by decide +kernel
theorem dX2_add_47 : decode cX2_add 47 = .ok (.iadd, 1) := by decide +kernel
theorem dX2_add_48 : decode cX2_add 48 = .ok (.putfield 21, 3) := by decide +kernel
theorem dX2_add_51 : decode cX2_add 51 = .ok (.iconst 1, 1) := by decide +kernel
theorem dX2_add_52 : decode cX2_add 52 = .ok (.ireturn, 1) := by decide +kernel
noncomputable def F2_add (v0 : Nat) (v1 : Int32) (v2 : Int32) (v3 : Int32) (mc : Mem) : Option (Int32 × Mem) :=
  (if (mc v0 3) < (8 : Int32) then (ck (mc v0 3) 8 (lt (mset mc (v0 + 1) (mc v0 3).toNatClampNeg v1) (fun M8 => (ck (M8 v0 3) 8 (lt (mset M8 (v0 + 2) (M8 v0 3).toNatClampNeg v2) (fun M10 => (ck (M10 v0 3) 8 (lt (mset M10 (v0 + 3) (M10 v0 3).toNatClampNeg v3) (fun M12 => (some ((1 : Int32), (mset M12 v0 3 ((M12 v0 3) + (1 : Int32)))))))))))))) else some ((0 : Int32), mc))
set_option maxHeartbeats 4000000 in
set_option maxRecDepth 100000 in
theorem kX2_add (l : Launch) (g : GG) (v0 : Nat) (v1 : Int32) (v2 : Int32) (v3 : Int32) (h0 : isO 2 v0) (mc mm : Mem) (q : Int32 × Mem) (hF : F2_add v0 v1 v2 v3 mc = some q) : KI l yX2_add cX2_add 4 .boolean 0 0 g [.ref (g.1 v0), .int v1, .int v2, .int v3] mc mm q.1 (q.2, mm) := by
  intro sz
  refine x_start (Qc := fun z => QI g z q.1 (q.2, mm)) (by decide +kernel) (Nat.le_of_ble_eq_true rfl) ?_ sz
  intro p e s m args below meth c ls Z hr hlk hP hl
  have hx := Z.1.1
  have hb := Z.1.2.1
  have hown := Z.1.2.2.2.1
  have hts := Z.1.2.2.2.2
  have hS : va_S (AA g s.heap.size) s.heap s.heap [] := va_S.rf
  have hl : lv_has ls 4 [(0, .ref (g.1 v0)), (1, .int v1), (2, .int v2), (3, .int v3)] := hl
  unfold F2_add at hF
  refine lv_aload_n hx hb dX2_add_0 rfl (lv_at hl 0 rfl) ?_
  refine gf2_3 Z hP h0 wd_17_22 dX2_add_1 ?_
  refine lv_bipush (v := (8 : Int32)) hx hb dX2_add_4 bp_8 ?_
  refine lv_icmp_lt (tgt := 11) hx hb dX2_add_6 rfl (fun hc => ?_) (fun hc => ?_)
  · have hF := (if_pos hc).symm.trans hF
    refine lv_aload_n hx hb dX2_add_11 rfl (lv_at hl 0 rfl) ?_
    refine gf2_0 Z hP h0 wd_4_14 dX2_add_12 ?_
    refine lv_aload_n hx hb dX2_add_15 rfl (lv_at hl 0 rfl) ?_
    refine gf2_3 Z hP h0 wd_17_22 dX2_add_16 ?_
    refine lv_iload_n hx hb dX2_add_19 rfl (lv_at hl 1 rfl) ?_
    obtain ⟨hi7, hF⟩ := ck_ok hF
    refine ra_st Z hP hS (ia_2_0 h0) hi7 dX2_add_20 (fun H locs hP hS => ?_)
    refine lv_aload_n hx hb dX2_add_21 rfl (lv_at hl 0 rfl) ?_
    refine gf2_1 Z hP h0 wd_4_15 dX2_add_22 ?_
    refine lv_aload_n hx hb dX2_add_25 rfl (lv_at hl 0 rfl) ?_
    obtain ⟨M8, eM8, hF⟩ := lt_ok hF
    have hP : va_P g.2.2.1 vwCl (wL g M8 mm) H := by rw [eM8]; exact hP
    refine gf2_3 Z hP h0 wd_17_22 dX2_add_26 ?_
    refine lv_iload_n hx hb dX2_add_29 rfl (lv_at hl 2 rfl) ?_
    obtain ⟨hi9, hF⟩ := ck_ok hF
    refine ra_st Z hP hS (ia_2_1 h0) hi9 dX2_add_30 (fun H locs hP hS => ?_)
    refine lv_aload_n hx hb dX2_add_31 rfl (lv_at hl 0 rfl) ?_
    refine gf2_2 Z hP h0 wd_4_16 dX2_add_32 ?_
    refine lv_aload_n hx hb dX2_add_35 rfl (lv_at hl 0 rfl) ?_
    obtain ⟨M10, eM10, hF⟩ := lt_ok hF
    have hP : va_P g.2.2.1 vwCl (wL g M10 mm) H := by rw [eM10]; exact hP
    refine gf2_3 Z hP h0 wd_17_22 dX2_add_36 ?_
    refine lv_iload_n hx hb dX2_add_39 rfl (lv_at hl 3 rfl) ?_
    obtain ⟨hi11, hF⟩ := ck_ok hF
    refine ra_st Z hP hS (ia_2_2 h0) hi11 dX2_add_40 (fun H locs hP hS => ?_)
    refine lv_aload_n hx hb dX2_add_41 rfl (lv_at hl 0 rfl) ?_
    refine lv_dup hx hb dX2_add_42 rfl ?_
    obtain ⟨M12, eM12, hF⟩ := lt_ok hF
    have hP : va_P g.2.2.1 vwCl (wL g M12 mm) H := by rw [eM12]; exact hP
    refine gf2_3 Z hP h0 wd_17_22 dX2_add_43 ?_
    refine lv_iconst (v := (1 : Int32)) hx hb dX2_add_46 ic_1 ?_
    refine lv_iadd hx hb dX2_add_47 ?_
    refine pf2_3 Z hP hS h0 wd_17_22 dX2_add_48 (fun H locs hP hS => ?_)
    refine lv_iconst (v := (1 : Int32)) hx hb dX2_add_51 ic_1 ?_
    exact ret_ZWC Z hr hlk hP hS (Or.inr rfl) hF dX2_add_52
  · have hF := (if_neg hc).symm.trans hF
    refine lv_iconst (v := (0 : Int32)) hx hb dX2_add_9 ic_0 ?_
    exact ret_ZWC Z hr hlk hP hS (Or.inl rfl) hF dX2_add_10
theorem xX2_add {p : Program} {l : Launch} {e : Env} {R : Room} {s : State} {m : MethodId} {args : Array Value} {below : List Frame} {meth : Method} {c : Code} {H : Heap} {locs : List Loc} {Q : State → Prop} {cc : ByteArray} {nL : Nat} {own : String} {g : GG} {pc index : Nat} {ls : Array Slot} {rest : List Value} {mc mm : Mem} (Z : ZZ p s m args c cc nL own g) (hP : va_P g.2.2.1 vwCl (wL g mc mm) H) (hS : va_S (AA g s.heap.size) s.heap H locs) {v0 : Nat} {v1 : Int32} {v2 : Int32} {v3 : Int32} (h0 : isO 2 v0) {q : Int32 × Mem} (hq : F2_add v0 v1 v2 v3 mc = some q) (hlk : Cond.methodLink own index yX2_add ∈ wsL_law) (hsz : ls.size = nL) (hro : (rest.map fun v => v.category).sum ≤ 8) (hR : 0 + 1 ≤ R.frames ∧ 8 + (4 + 11) + 0 ≤ R.locals) (hdg : decode cc pc = .ok (.invokevirtual index, 3)) (kk : ∀ (H : Heap) (locs : List Loc), va_P g.2.2.1 vwCl (wL g q.2 mm) H → va_S (AA g s.heap.size) s.heap H locs → W p l e R s m args below meth c H locs 0 0 Q (F0 m (pc + 3) ls (.int q.1 :: rest))) : W p l e R s m args below meth c H locs 0 0 Q (F0 m pc ls (.int v3 :: .int v2 :: .int v1 :: .ref (g.1 v0) :: rest)) :=
  x_VI Z hP hS (kX2_add l g v0 v1 v2 v3 h0 mc mm q hq) (isO_w h0) (ci := 2) (by decide) rfl rfl mf_X2_add mv_X2_add hlk rfl rfl hsz hro hR hdg kk
theorem dX9_in_0 : decode cX9_in 0 = .ok (.iload_n 0, 1) := by decide +kernel
theorem dX9_in_1 : decode cX9_in 1 = .ok (.ifCond .lt 12, 3) := by decide +kernel
theorem dX9_in_4 : decode cX9_in 4 = .ok (.iload_n 0, 1) := by decide +kernel
theorem dX9_in_5 : decode cX9_in 5 = .ok (.iload_n 1, 1) := by decide +kernel
theorem dX9_in_6 : decode cX9_in 6 = .ok (.if_icmp .ge 7, 3) := by decide +kernel
theorem dX9_in_9 : decode cX9_in 9 = .ok (.iconst 1, 1) := by decide +kernel
theorem dX9_in_10 : decode cX9_in 10 = .ok (.goto 4, 3) := by decide +kernel
theorem dX9_in_13 : decode cX9_in 13 = .ok (.iconst 0, 1) := by decide +kernel
theorem dX9_in_14 : decode cX9_in 14 = .ok (.ireturn, 1) := by decide +kernel
noncomputable def F9_in_b13 (v0 : Int32) (v1 : Int32) : Option (Int32) :=
  some (0 : Int32)
noncomputable def F9_in (v0 : Int32) (v1 : Int32) : Option (Int32) :=
  (if v0 < (0 : Int32) then (F9_in_b13 v0 v1) else (if v1 ≤ v0 then (F9_in_b13 v0 v1) else some (1 : Int32)))
set_option maxHeartbeats 4000000 in
set_option maxRecDepth 100000 in
theorem kX9_in (l : Launch) (g : GG) (v0 : Int32) (v1 : Int32) (mc mm : Mem) (q : Int32) (hF : F9_in v0 v1 = some q) : KI l yX9_in cX9_in 2 .boolean 0 0 g [.int v0, .int v1] mc mm q (mc, mm) := by
  intro sz
  refine x_start (Qc := fun z => QI g z q (mc, mm)) (by decide +kernel) (Nat.le_of_ble_eq_true rfl) ?_ sz
  intro p e s m args below meth c ls Z hr hlk hP hl
  have hx := Z.1.1
  have hb := Z.1.2.1
  have hown := Z.1.2.2.2.1
  have hts := Z.1.2.2.2.2
  have hS : va_S (AA g s.heap.size) s.heap s.heap [] := va_S.rf
  have hl : lv_has ls 2 [(0, .int v0), (1, .int v1)] := hl
  unfold F9_in at hF
  have hb13 : F9_in_b13 v0 v1 = some q → ∀ (H : Heap) (locs : List Loc) (ls : Array Slot), lv_has ls 2 [] → va_P g.2.2.1 vwCl (wL g mc mm) H → va_S (AA g s.heap.size) s.heap H locs → W p l e { frames := 0, cells := 0, slots := 0, locals := 0 } s m args below meth c H locs 0 0 (MQ below (QI g s.heap.size q (mc, mm)) args s 0 0 (AA g s.heap.size)) (F0 m 13 ls []) := by
    intro hF H locs ls hl hP hS
    unfold F9_in_b13 at hF
    refine lv_iconst (v := (0 : Int32)) hx hb dX9_in_13 ic_0 ?_
    exact ret_Z Z hr hlk hP hS (Or.inl rfl) hF dX9_in_14
  refine lv_iload_n hx hb dX9_in_0 rfl (lv_at hl 0 rfl) ?_
  refine lv_if_lt (tgt := 13) hx hb dX9_in_1 rfl (fun hc => ?_) (fun hc => ?_)
  · have hF := (if_pos hc).symm.trans hF
    exact hb13  hF _ _ _ (lv_sub hl [] rfl) hP hS
  · have hF := (if_neg hc).symm.trans hF
    refine lv_iload_n hx hb dX9_in_4 rfl (lv_at hl 0 rfl) ?_
    refine lv_iload_n hx hb dX9_in_5 rfl (lv_at hl 1 rfl) ?_
    refine lv_icmp_ge (tgt := 13) hx hb dX9_in_6 rfl (fun hc => ?_) (fun hc => ?_)
    · have hF := (if_pos hc).symm.trans hF
      exact hb13  hF _ _ _ (lv_sub hl [] rfl) hP hS
    · have hF := (if_neg hc).symm.trans hF
      refine lv_iconst (v := (1 : Int32)) hx hb dX9_in_9 ic_1 ?_
      refine lv_goto (tgt := 14) hx hb dX9_in_10 rfl ?_
      exact ret_Z Z hr hlk hP hS (Or.inr rfl) hF dX9_in_14
theorem xX9_in {p : Program} {l : Launch} {e : Env} {R : Room} {s : State} {m : MethodId} {args : Array Value} {below : List Frame} {meth : Method} {c : Code} {H : Heap} {locs : List Loc} {Q : State → Prop} {cc : ByteArray} {nL : Nat} {own : String} {g : GG} {pc index : Nat} {ls : Array Slot} {rest : List Value} {mc mm : Mem} (Z : ZZ p s m args c cc nL own g) (hP : va_P g.2.2.1 vwCl (wL g mc mm) H) (hS : va_S (AA g s.heap.size) s.heap H locs) {v0 : Int32} {v1 : Int32} {q : Int32} (hq : F9_in v0 v1 = some q) (hlk : Cond.methodLink own index yX9_in ∈ wsL_law) (hsz : ls.size = nL) (hro : (rest.map fun v => v.category).sum ≤ 8) (hR : 0 + 1 ≤ R.frames ∧ 8 + (2 + 11) + 0 ≤ R.locals) (hdg : decode cc pc = .ok (.invokestatic index, 3)) (kk : ∀ (H : Heap) (locs : List Loc), va_P g.2.2.1 vwCl (wL g mc mm) H → va_S (AA g s.heap.size) s.heap H locs → W p l e R s m args below meth c H locs 0 0 Q (F0 m (pc + 3) ls (.int q :: rest))) : W p l e R s m args below meth c H locs 0 0 Q (F0 m pc ls (.int v1 :: .int v0 :: rest)) :=
  x_SI Z hP hS (kX9_in l g v0 v1 mc mm q hq) mf_X9_in wd_7_8 hlk rfl rfl hsz hro hR hdg kk
theorem xX9_inN {p : Program} {l : Launch} {e : Env} {R : Room} {s : State} {m : MethodId} {args : Array Value} {below : List Frame} {meth : Method} {c : Code} {H : Heap} {locs : List Loc} {Q : State → Prop} {cc : ByteArray} {nL : Nat} {own : String} {g : GG} {pc index : Nat} {ls : Array Slot} {rest : List Value} {mc mm : Mem} (Z : ZZ p s m args c cc nL own g) (hP : va_P g.2.2.1 vwCl (wL g mc mm) H) (hS : va_S (AA g s.heap.size) s.heap H locs) {v0 : Int32} {v1 : Int32} {q : Int32} (hq : F9_in v0 v1 = some q) (hlk : (own, index, yX9_in) ∈ nwM) (hsz : ls.size = nL) (hro : (rest.map fun v => v.category).sum ≤ 8) (hR : 0 + 1 ≤ R.frames ∧ 8 + (2 + 11) + 0 ≤ R.locals) (hdg : decode cc pc = .ok (.invokestatic index, 3)) (kk : ∀ (H : Heap) (locs : List Loc), va_P g.2.2.1 vwCl (wL g mc mm) H → va_S (AA g s.heap.size) s.heap H locs → W p l e R s m args below meth c H locs 0 0 Q (F0 m (pc + 3) ls (.int q :: rest))) : W p l e R s m args below meth c H locs 0 0 Q (F0 m pc ls (.int v1 :: .int v0 :: rest)) :=
  x_NI Z hP hS (kX9_in l g v0 v1 mc mm q hq) mf_X9_in wd_7_8 hlk rfl rfl hsz hro hR hdg kk
theorem dX3_put_0 : decode cX3_put 0 = .ok (.iload_n 1, 1) := by decide +kernel
theorem dX3_put_1 : decode cX3_put 1 = .ok (.ifCond .ne 13, 3) := by decide +kernel
theorem dX3_put_4 : decode cX3_put 4 = .ok (.aload_n 0, 1) := by decide +kernel
theorem dX3_put_5 : decode cX3_put 5 = .ok (.getfield 9, 3) := by decide +kernel
theorem dX3_put_8 : decode cX3_put 8 = .ok (.iload_n 2, 1) := by decide +kernel
theorem dX3_put_9 : decode cX3_put 9 = .ok (.dup2, 1) := by decide +kernel
theorem dX3_put_10 : decode cX3_put 10 = .ok (.iaload, 1) := by decide +kernel
theorem dX3_put_11 : decode cX3_put 11 = .ok (.iload_n 3, 1) := by decide +kernel
theorem dX3_put_12 : decode cX3_put 12 = .ok (.ior, 1) := by decide +kernel
theorem dX3_put_13 : decode cX3_put 13 = .ok (.iastore, 1) := by decide +kernel
theorem dX3_put_14 : decode cX3_put 14 = .ok (.iload_n 1, 1) := by decide +kernel
theorem dX3_put_15 : decode cX3_put 15 = .ok (.iconst 1, 1) := by decide +kernel
theorem dX3_put_16 : decode cX3_put 16 = .ok (.if_icmp .ne 38, 3) := by decide +kernel
theorem dX3_put_19 : decode cX3_put 19 = .ok (.iload_n 2, 1) := by decide +kernel
theorem dX3_put_20 : decode cX3_put 20 = .ok (.istore 4, 2) := by decide +kernel
theorem dX3_put_22 : decode cX3_put 22 = .ok (.iload 4, 2) := by decide +kernel
theorem dX3_put_24 : decode cX3_put 24 = .ok (.bipush 40, 2) := by decide +kernel
theorem dX3_put_26 : decode cX3_put 26 = .ok (.if_icmp .ge 28, 3) := by decide +kernel
theorem dX3_put_29 : decode cX3_put 29 = .ok (.iload 4, 2) := by decide +kernel
theorem dX3_put_31 : decode cX3_put 31 = .ok (.iload_n 2, 1) := by decide +kernel
theorem dX3_put_32 : decode cX3_put 32 = .ok (.iconst 3, 1) := by decide +kernel
theorem dX3_put_33 : decode cX3_put 33 = .ok (.iadd, 1) := by decide +kernel
theorem dX3_put_34 : decode cX3_put 34 = .ok (.if_icmp .ge 20, 3) := by decide +kernel
theorem dX3_put_37 : decode cX3_put 37 = .ok (.aload_n 0, 1) := by decide +kernel
theorem dX3_put_38 : decode cX3_put 38 = .ok (.getfield 15, 3) := by decide +kernel
theorem dX3_put_41 : decode cX3_put 41 = .ok (.iload 4, 2) := by decide +kernel
theorem dX3_put_43 : decode cX3_put 43 = .ok (.dup2, 1) := by decide +kernel
theorem dX3_put_44 : decode cX3_put 44 = .ok (.iaload, 1) := by decide +kernel
theorem dX3_put_45 : decode cX3_put 45 = .ok (.iload_n 3, 1) := by decide +kernel
theorem dX3_put_46 : decode cX3_put 46 = .ok (.ior, 1) := by decide +kernel
theorem dX3_put_47 : decode cX3_put 47 = .ok (.iastore, 1) := by decide +kernel
theorem dX3_put_48 : decode cX3_put 48 = .ok (.iinc 4 1, 3) := by decide +kernel
theorem dX3_put_51 : decode cX3_put 51 = .ok (.goto (-29), 3) := by decide +kernel
theorem dX3_put_54 : decode cX3_put 54 = .ok (.iload_n 1, 1) := by decide +kernel
theorem dX3_put_55 : decode cX3_put 55 = .ok (.iconst 2, 1) := by decide +kernel
theorem dX3_put_56 : decode cX3_put 56 = .ok (.if_icmp .ne 10, 3) := by decide +kernel
theorem dX3_put_59 : decode cX3_put 59 = .ok (.aload_n 0, 1) := by decide +kernel
theorem dX3_put_60 : decode cX3_put 60 = .ok (.getfield 18, 3) := by decide +kernel
theorem dX3_put_63 : decode cX3_put 63 = .ok (.iload_n 2, 1) := by decide +kernel
theorem dX3_put_64 : decode cX3_put 64 = .ok (.iconst 1, 1) := by decide +kernel
theorem dX3_put_65 : decode cX3_put 65 = .ok (.bastore, 1) := by decide +kernel
theorem dX3_put_66 : decode cX3_put 66 = .ok (.return_, 1) := by decide +kernel
noncomputable def F3_put_b54 (v0 : Nat) (v1 : Int32) (v2 : Int32) (v3 : Int32) (M : Mem) : Option (Mem) :=
  (if v1 = (2 : Int32) then (ck v2 40 (some (mset M (v0 + 3) v2.toNatClampNeg (1 : Int32)))) else some M)
noncomputable def F3_put_p22 (kh : Int32 → Mem → Option (Mem)) (kx54 : Mem → Option (Mem)) (v0 : Nat) (v1 : Int32) (v2 : Int32) (v3 : Int32) (a4 : Int32) (M : Mem) : Option (Mem) :=
  (if (40 : Int32) ≤ a4 then kx54 M else (if (v2 + (3 : Int32)) ≤ a4 then kx54 M else (ck a4 40 (ck a4 40 (kh (a4 + (1 : Int32)) (mset M (v0 + 2) a4.toNatClampNeg ((M (v0 + 2) a4.toNatClampNeg) ||| v3)))))))
noncomputable def F3_put_h22 (kx54 : Mem → Option (Mem)) (v0 : Nat) (v1 : Int32) (v2 : Int32) (v3 : Int32) : Nat → Int32 → Mem → Option (Mem)
  | 0, _, _ => none
  | n + 1, a4, M => F3_put_p22 (F3_put_h22 kx54 v0 v1 v2 v3 n) kx54 v0 v1 v2 v3 a4 M
noncomputable def F3_put_b14 (v0 : Nat) (v1 : Int32) (v2 : Int32) (v3 : Int32) (M : Mem) : Option (Mem) :=
  (if v1 = (1 : Int32) then (F3_put_h22 (F3_put_b54 v0 v1 v2 v3) v0 v1 v2 v3 FU) v2 M else (F3_put_b54 v0 v1 v2 v3) M)
noncomputable def F3_put (v0 : Nat) (v1 : Int32) (v2 : Int32) (v3 : Int32) (mc : Mem) : Option (Mem) :=
  (if v1 = (0 : Int32) then (ck v2 40 (ck v2 40 ((F3_put_b14 v0 v1 v2 v3) (mset mc (v0 + 1) v2.toNatClampNeg ((mc (v0 + 1) v2.toNatClampNeg) ||| v3))))) else (F3_put_b14 v0 v1 v2 v3) mc)
set_option maxHeartbeats 4000000 in
set_option maxRecDepth 100000 in
theorem kX3_put (l : Launch) (g : GG) (v0 : Nat) (v1 : Int32) (v2 : Int32) (v3 : Int32) (h0 : isO 3 v0) (mc mm : Mem) (q : Mem) (hF : F3_put v0 v1 v2 v3 mc = some q) : KV l yX3_put cX3_put 5 0 0 g [.ref (g.1 v0), .int v1, .int v2, .int v3] mc mm (q, mm) := by
  intro sz
  refine x_start (Qc := fun z => QV g z (q, mm)) (by decide +kernel) (Nat.le_of_ble_eq_true rfl) ?_ sz
  intro p e s m args below meth c ls Z hr hlk hP hl
  have hx := Z.1.1
  have hb := Z.1.2.1
  have hown := Z.1.2.2.2.1
  have hts := Z.1.2.2.2.2
  have hS : va_S (AA g s.heap.size) s.heap s.heap [] := va_S.rf
  have hl : lv_has ls 5 [(0, .ref (g.1 v0)), (1, .int v1), (2, .int v2), (3, .int v3)] := hl
  unfold F3_put at hF
  have hb54 : ∀  (M : Mem), F3_put_b54 v0 v1 v2 v3 M = some q → ∀ (H : Heap) (locs : List Loc) (ls : Array Slot), lv_has ls 5 [(0, .ref (g.1 v0)), (1, .int v1), (2, .int v2)] → va_P g.2.2.1 vwCl (wL g M mm) H → va_S (AA g s.heap.size) s.heap H locs → W p l e { frames := 0, cells := 0, slots := 0, locals := 0 } s m args below meth c H locs 0 0 (MQ below (QV g s.heap.size (q, mm)) args s 0 0 (AA g s.heap.size)) (F0 m 54 ls []) := by
    intro M hF H locs ls hl hP hS
    unfold F3_put_b54 at hF
    refine lv_iload_n hx hb dX3_put_54 rfl (lv_at hl 1 rfl) ?_
    refine lv_iconst (v := (2 : Int32)) hx hb dX3_put_55 ic_2 ?_
    refine lv_icmp_ne (tgt := 66) hx hb dX3_put_56 rfl (fun hc => ?_) (fun hc => ?_)
    · have hF := (if_neg hc).symm.trans hF
      exact ret_VWC Z hr hlk hP hS hF dX3_put_66
    · have hF := (if_pos hc).symm.trans hF
      refine lv_aload_n hx hb dX3_put_59 rfl (lv_at hl 0 rfl) ?_
      refine gf3_2 Z hP h0 wd_5_10 dX3_put_60 ?_
      refine lv_iload_n hx hb dX3_put_63 rfl (lv_at hl 2 rfl) ?_
      refine lv_iconst (v := (1 : Int32)) hx hb dX3_put_64 ic_1 ?_
      obtain ⟨hi6, hF⟩ := ck_ok hF
      refine rz_st Z hP hS (ia_3_2 h0) (Or.inr rfl) hi6 dX3_put_65 (fun H locs hP hS => ?_)
      exact ret_VWC Z hr hlk hP hS hF dX3_put_66
  have hL22 : ∀ (kx54 : Mem → Option (Mem)), (∀  (M : Mem), kx54 M = some q → ∀ (H : Heap) (locs : List Loc) (ls : Array Slot), lv_has ls 5 [(0, .ref (g.1 v0)), (1, .int v1), (2, .int v2)] → va_P g.2.2.1 vwCl (wL g M mm) H → va_S (AA g s.heap.size) s.heap H locs → W p l e { frames := 0, cells := 0, slots := 0, locals := 0 } s m args below meth c H locs 0 0 (MQ below (QV g s.heap.size (q, mm)) args s 0 0 (AA g s.heap.size)) (F0 m 54 ls [])) → ∀ n : Nat, ∀ (a4 : Int32) (M : Mem), F3_put_h22 kx54 v0 v1 v2 v3 n a4 M = some q → ∀ (H : Heap) (locs : List Loc) (ls : Array Slot), lv_has ls 5 [(0, .ref (g.1 v0)), (1, .int v1), (2, .int v2), (3, .int v3), (4, .int a4)] → va_P g.2.2.1 vwCl (wL g M mm) H → va_S (AA g s.heap.size) s.heap H locs → W p l e { frames := 0, cells := 0, slots := 0, locals := 0 } s m args below meth c H locs 0 0 (MQ below (QV g s.heap.size (q, mm)) args s 0 0 (AA g s.heap.size)) (F0 m 22 ls []) := by
    intro kx54 hx54 n
    induction n with
    | zero => intro a4 M hF H locs ls hl hP hS; exact absurd hF (fun z => nomatch (show (none : Option _) = some q from z))
    | succ n ih =>
      generalize hkh : F3_put_h22 kx54 v0 v1 v2 v3 n = kh at ih
      intro a4 M hF H locs ls hl hP hS
      have hF : F3_put_p22 (F3_put_h22 kx54 v0 v1 v2 v3 n) kx54 v0 v1 v2 v3 a4 M = some q := hF
      rw [hkh] at hF
      unfold F3_put_p22 at hF
      refine lv_iload hx hb dX3_put_22 (lv_at hl 4 rfl) ?_
      refine lv_bipush (v := (40 : Int32)) hx hb dX3_put_24 bp_40 ?_
      refine lv_icmp_ge (tgt := 54) hx hb dX3_put_26 rfl (fun hc => ?_) (fun hc => ?_)
      · have hF := (if_pos hc).symm.trans hF
        exact hx54 _ hF _ _ _ (lv_sub hl [0, 1, 2] rfl) hP hS
      · have hF := (if_neg hc).symm.trans hF
        refine lv_iload hx hb dX3_put_29 (lv_at hl 4 rfl) ?_
        refine lv_iload_n hx hb dX3_put_31 rfl (lv_at hl 2 rfl) ?_
        refine lv_iconst (v := (3 : Int32)) hx hb dX3_put_32 ic_3 ?_
        refine lv_iadd hx hb dX3_put_33 ?_
        refine lv_icmp_ge (tgt := 54) hx hb dX3_put_34 rfl (fun hc => ?_) (fun hc => ?_)
        · have hF := (if_pos hc).symm.trans hF
          exact hx54 _ hF _ _ _ (lv_sub hl [0, 1, 2] rfl) hP hS
        · have hF := (if_neg hc).symm.trans hF
          refine lv_aload_n hx hb dX3_put_37 rfl (lv_at hl 0 rfl) ?_
          refine gf3_1 Z hP h0 wd_5_8 dX3_put_38 ?_
          refine lv_iload hx hb dX3_put_41 (lv_at hl 4 rfl) ?_
          refine lv_dup2_11 hx hb dX3_put_43 rfl rfl ?_
          obtain ⟨hi7, hF⟩ := ck_ok hF
          refine ra_ld Z hP (ia_3_1 h0) hi7 dX3_put_44 ?_
          refine lv_iload_n hx hb dX3_put_45 rfl (lv_at hl 3 rfl) ?_
          refine lv_ior hx hb dX3_put_46 ?_
          obtain ⟨hi8, hF⟩ := ck_ok hF
          refine ra_st Z hP hS (ia_3_1 h0) hi8 dX3_put_47 (fun H locs hP hS => ?_)
          refine lv_iinc (lv' := [(4, .int (a4 + (1 : Int32))), (0, .ref (g.1 v0)), (1, .int v1), (2, .int v2), (3, .int v3)]) (v := (a4 + (1 : Int32))) hx hb dX3_put_48 hl (k := 4) rfl (io_1 _) (Nat.le_of_ble_eq_true rfl) rfl (fun ls hl => ?_)
          refine lv_goto (tgt := 22) hx hb dX3_put_51 rfl ?_
          exact ih _ _ hF _ _ _ (lv_sub hl [1, 2, 3, 4, 0] rfl) hP hS
  have hb14 : ∀  (M : Mem), F3_put_b14 v0 v1 v2 v3 M = some q → ∀ (H : Heap) (locs : List Loc) (ls : Array Slot), lv_has ls 5 [(0, .ref (g.1 v0)), (1, .int v1), (2, .int v2), (3, .int v3)] → va_P g.2.2.1 vwCl (wL g M mm) H → va_S (AA g s.heap.size) s.heap H locs → W p l e { frames := 0, cells := 0, slots := 0, locals := 0 } s m args below meth c H locs 0 0 (MQ below (QV g s.heap.size (q, mm)) args s 0 0 (AA g s.heap.size)) (F0 m 14 ls []) := by
    intro M hF H locs ls hl hP hS
    unfold F3_put_b14 at hF
    refine lv_iload_n hx hb dX3_put_14 rfl (lv_at hl 1 rfl) ?_
    refine lv_iconst (v := (1 : Int32)) hx hb dX3_put_15 ic_1 ?_
    refine lv_icmp_ne (tgt := 54) hx hb dX3_put_16 rfl (fun hc => ?_) (fun hc => ?_)
    · have hF := (if_neg hc).symm.trans hF
      exact hb54 _ hF _ _ _ (lv_sub hl [0, 1, 2] rfl) hP hS
    · have hF := (if_pos hc).symm.trans hF
      refine lv_iload_n hx hb dX3_put_19 rfl (lv_at hl 2 rfl) ?_
      refine lv_istore (lv' := [(4, .int v2), (0, .ref (g.1 v0)), (1, .int v1), (2, .int v2), (3, .int v3)]) hx hb dX3_put_20 hl (Nat.le_of_ble_eq_true rfl) rfl (fun ls hl => ?_)
      exact (hL22 _ hb54 FU) _ _ hF _ _ _ (lv_sub hl [1, 2, 3, 4, 0] rfl) hP hS
  refine lv_iload_n hx hb dX3_put_0 rfl (lv_at hl 1 rfl) ?_
  refine lv_if_ne (tgt := 14) hx hb dX3_put_1 rfl (fun hc => ?_) (fun hc => ?_)
  · have hF := (if_neg hc).symm.trans hF
    exact hb14 _ hF _ _ _ (lv_sub hl [0, 1, 2, 3] rfl) hP hS
  · have hF := (if_pos hc).symm.trans hF
    refine lv_aload_n hx hb dX3_put_4 rfl (lv_at hl 0 rfl) ?_
    refine gf3_0 Z hP h0 wd_5_7 dX3_put_5 ?_
    refine lv_iload_n hx hb dX3_put_8 rfl (lv_at hl 2 rfl) ?_
    refine lv_dup2_11 hx hb dX3_put_9 rfl rfl ?_
    obtain ⟨hi9, hF⟩ := ck_ok hF
    refine ra_ld Z hP (ia_3_0 h0) hi9 dX3_put_10 ?_
    refine lv_iload_n hx hb dX3_put_11 rfl (lv_at hl 3 rfl) ?_
    refine lv_ior hx hb dX3_put_12 ?_
    obtain ⟨hi10, hF⟩ := ck_ok hF
    refine ra_st Z hP hS (ia_3_0 h0) hi10 dX3_put_13 (fun H locs hP hS => ?_)
    exact hb14 _ hF _ _ _ (lv_sub hl [0, 1, 2, 3] rfl) hP hS
theorem xX3_put {p : Program} {l : Launch} {e : Env} {R : Room} {s : State} {m : MethodId} {args : Array Value} {below : List Frame} {meth : Method} {c : Code} {H : Heap} {locs : List Loc} {Q : State → Prop} {cc : ByteArray} {nL : Nat} {own : String} {g : GG} {pc index : Nat} {ls : Array Slot} {rest : List Value} {mc mm : Mem} (Z : ZZ p s m args c cc nL own g) (hP : va_P g.2.2.1 vwCl (wL g mc mm) H) (hS : va_S (AA g s.heap.size) s.heap H locs) {v0 : Nat} {v1 : Int32} {v2 : Int32} {v3 : Int32} (h0 : isO 3 v0) {q : Mem} (hq : F3_put v0 v1 v2 v3 mc = some q) (hlk : Cond.methodLink own index yX3_put ∈ wsL_law) (hsz : ls.size = nL) (hro : (rest.map fun v => v.category).sum ≤ 8) (hR : 0 + 1 ≤ R.frames ∧ 8 + (5 + 11) + 0 ≤ R.locals) (hdg : decode cc pc = .ok (.invokevirtual index, 3)) (kk : ∀ (H : Heap) (locs : List Loc), va_P g.2.2.1 vwCl (wL g q mm) H → va_S (AA g s.heap.size) s.heap H locs → W p l e R s m args below meth c H locs 0 0 Q (F0 m (pc + 3) ls (rest))) : W p l e R s m args below meth c H locs 0 0 Q (F0 m pc ls (.int v3 :: .int v2 :: .int v1 :: .ref (g.1 v0) :: rest)) :=
  x_VV Z hP hS (kX3_put l g v0 v1 v2 v3 h0 mc mm q hq) (isO_w h0) (ci := 3) (by decide) rfl rfl mf_X3_put mv_X3_put hlk rfl rfl hsz hro hR hdg kk
theorem dX3_fill_0 : decode cX3_fill 0 = .ok (.iconst 0, 1) := by decide +kernel
theorem dX3_fill_1 : decode cX3_fill 1 = .ok (.istore_n 3, 1) := by decide +kernel
theorem dX3_fill_2 : decode cX3_fill 2 = .ok (.iload_n 3, 1) := by decide +kernel
theorem dX3_fill_3 : decode cX3_fill 3 = .ok (.bipush 40, 2) := by decide +kernel
theorem dX3_fill_5 : decode cX3_fill 5 = .ok (.if_icmp .ge 30, 3) := by decide +kernel
theorem dX3_fill_8 : decode cX3_fill 8 = .ok (.aload_n 0, 1) := by decide +kernel
theorem dX3_fill_9 : decode cX3_fill 9 = .ok (.getfield 9, 3) := by decide +kernel
theorem dX3_fill_12 : decode cX3_fill 12 = .ok (.iload_n 3, 1) := by decide +kernel
theorem dX3_fill_13 : decode cX3_fill 13 = .ok (.iconst 0, 1) := by decide +kernel
theorem dX3_fill_14 : decode cX3_fill 14 = .ok (.iastore, 1) := by decide +kernel
theorem dX3_fill_15 : decode cX3_fill 15 = .ok (.aload_n 0, 1) := by decide +kernel
theorem dX3_fill_16 : decode cX3_fill 16 = .ok (.getfield 15, 3) := by decide +kernel
theorem dX3_fill_19 : decode cX3_fill 19 = .ok (.iload_n 3, 1) := by decide +kernel
theorem dX3_fill_20 : decode cX3_fill 20 = .ok (.iconst 0, 1) := by decide +kernel
theorem dX3_fill_21 : decode cX3_fill 21 = .ok (.iastore, 1) := by decide +kernel
theorem dX3_fill_22 : decode cX3_fill 22 = .ok (.aload_n 0, 1) := by decide +kernel
theorem dX3_fill_23 : decode cX3_fill 23 = .ok (.getfield 18, 3) := by decide +kernel
theorem dX3_fill_26 : decode cX3_fill 26 = .ok (.iload_n 3, 1) := by decide +kernel
theorem dX3_fill_27 : decode cX3_fill 27 = .ok (.iconst 0, 1) := by decide +kernel
theorem dX3_fill_28 : decode cX3_fill 28 = .ok (.bastore, 1) := by decide +kernel
theorem dX3_fill_29 : decode cX3_fill 29 = .ok (.iinc 3 1, 3) := by decide +kernel
theorem dX3_fill_32 : decode cX3_fill 32 = .ok (.goto (-30), 3) := by decide +kernel
theorem dX3_fill_35 : decode cX3_fill 35 = .ok (.iconst 0, 1) := by decide +kernel
theorem dX3_fill_36 : decode cX3_fill 36 = .ok (.istore_n 3, 1) := by decide +kernel
theorem dX3_fill_37 : decode cX3_fill 37 = .ok (.iload_n 3, 1) := by decide +kernel
theorem dX3_fill_38 : decode cX3_fill 38 = .ok (.aload_n 1, 1) := by decide +kernel
theorem dX3_fill_39 : decode cX3_fill 39 = .ok (.getfield 22, 3) := by decide +kernel
theorem dX3_fill_42 : decode cX3_fill 42 = .ok (.if_icmp .ge 56, 3) := by decide +kernel
theorem dX3_fill_45 : decode cX3_fill 45 = .ok (.iload_n 2, 1) := by decide +kernel
theorem dX3_fill_46 : decode cX3_fill 46 = .ok (.iload_n 3, 1) := by decide +kernel
theorem dX3_fill_47 : decode cX3_fill 47 = .ok (.ishr, 1) := by decide +kernel
theorem dX3_fill_48 : decode cX3_fill 48 = .ok (.iconst 1, 1) := by decide +kernel
theorem dX3_fill_49 : decode cX3_fill 49 = .ok (.iand, 1) := by decide +kernel
theorem dX3_fill_50 : decode cX3_fill 50 = .ok (.iconst 1, 1) := by decide +kernel
theorem dX3_fill_51 : decode cX3_fill 51 = .ok (.if_icmp .ne 41, 3) := by decide +kernel
theorem dX3_fill_54 : decode cX3_fill 54 = .ok (.aload_n 1, 1) := by decide +kernel
theorem dX3_fill_55 : decode cX3_fill 55 = .ok (.getfield 28, 3) := by decide +kernel
theorem dX3_fill_58 : decode cX3_fill 58 = .ok (.iload_n 3, 1) := by decide +kernel
theorem dX3_fill_59 : decode cX3_fill 59 = .ok (.iaload, 1) := by decide +kernel
theorem dX3_fill_60 : decode cX3_fill 60 = .ok (.bipush 40, 2) := by decide +kernel
theorem dX3_fill_62 : decode cX3_fill 62 = .ok (.invokestatic 31, 3) := by decide +kernel
theorem dX3_fill_65 : decode cX3_fill 65 = .ok (.ifCond .eq 27, 3) := by decide +kernel
theorem dX3_fill_68 : decode cX3_fill 68 = .ok (.aload_n 0, 1) := by decide +kernel
theorem dX3_fill_69 : decode cX3_fill 69 = .ok (.aload_n 1, 1) := by decide +kernel
theorem dX3_fill_70 : decode cX3_fill 70 = .ok (.getfield 35, 3) := by decide +kernel
theorem dX3_fill_73 : decode cX3_fill 73 = .ok (.iload_n 3, 1) := by decide +kernel
theorem dX3_fill_74 : decode cX3_fill 74 = .ok (.iaload, 1) := by decide +kernel
theorem dX3_fill_75 : decode cX3_fill 75 = .ok (.aload_n 1, 1) := by decide +kernel
theorem dX3_fill_76 : decode cX3_fill 76 = .ok (.getfield 28, 3) := by decide +kernel
theorem dX3_fill_79 : decode cX3_fill 79 = .ok (.iload_n 3, 1) := by decide +kernel
theorem dX3_fill_80 : decode cX3_fill 80 = .ok (.iaload, 1) := by decide +kernel
theorem dX3_fill_81 : decode cX3_fill 81 = .ok (.iconst 1, 1) := by decide +kernel
theorem dX3_fill_82 : decode cX3_fill 82 = .ok (.aload_n 1, 1) := by decide +kernel
theorem dX3_fill_83 : decode cX3_fill 83 = .ok (.getfield 38, 3) := by decide +kernel
theorem dX3_fill_86 : decode cX3_fill 86 = .ok (.iload_n 3, 1) := by decide +kernel
theorem dX3_fill_87 : decode cX3_fill 87 = .ok (.iaload, 1) := by decide +kernel
theorem dX3_fill_88 : decode cX3_fill 88 = .ok (.ishl, 1) := by decide +kernel
theorem dX3_fill_89 : decode cX3_fill 89 = .ok (.invokevirtual 41, 3) := by decide +kernel
theorem dX3_fill_92 : decode cX3_fill 92 = .ok (.iinc 3 1, 3) := by decide +kernel
theorem dX3_fill_95 : decode cX3_fill 95 = .ok (.goto (-58), 3) := by decide +kernel
theorem dX3_fill_98 : decode cX3_fill 98 = .ok (.return_, 1) := by decide +kernel
noncomputable def F3_fill_b92 (kh : Int32 → Mem → Option (Mem)) (v0 : Nat) (v1 : Nat) (v2 : Int32) (a3 : Int32) (M : Mem) : Option (Mem) :=
  kh (a3 + (1 : Int32)) M
noncomputable def F3_fill_p37 (kh : Int32 → Mem → Option (Mem)) (v0 : Nat) (v1 : Nat) (v2 : Int32) (a3 : Int32) (M : Mem) : Option (Mem) :=
  (if (M v1 3) ≤ a3 then some M else (if ((v2 >>> (a3 &&& (31 : Int32))) &&& (1 : Int32)) = (1 : Int32) then (ck a3 8 ((F9_in (M (v1 + 2) a3.toNatClampNeg) (40 : Int32)).bind (fun q11 => (if q11 = (0 : Int32) then (F3_fill_b92 kh v0 v1 v2) a3 M else (ck a3 8 (ck a3 8 (ck a3 8 ((F3_put v0 (M (v1 + 1) a3.toNatClampNeg) (M (v1 + 2) a3.toNatClampNeg) ((1 : Int32) <<< ((M (v1 + 3) a3.toNatClampNeg) &&& (31 : Int32))) M).bind (fun q15 => ((F3_fill_b92 kh v0 v1 v2) a3 q15)))))))))) else (F3_fill_b92 kh v0 v1 v2) a3 M))
noncomputable def F3_fill_h37 (v0 : Nat) (v1 : Nat) (v2 : Int32) : Nat → Int32 → Mem → Option (Mem)
  | 0, _, _ => none
  | n + 1, a3, M => F3_fill_p37 (F3_fill_h37 v0 v1 v2 n) v0 v1 v2 a3 M
noncomputable def F3_fill_b35 (v0 : Nat) (v1 : Nat) (v2 : Int32) (M : Mem) : Option (Mem) :=
  (F3_fill_h37 v0 v1 v2 FU) (0 : Int32) M
noncomputable def F3_fill_p2 (kh : Int32 → Mem → Option (Mem)) (kx35 : Mem → Option (Mem)) (v0 : Nat) (v1 : Nat) (v2 : Int32) (a3 : Int32) (M : Mem) : Option (Mem) :=
  (if (40 : Int32) ≤ a3 then kx35 M else (ck a3 40 (ck a3 40 (ck a3 40 (kh (a3 + (1 : Int32)) (mset (mset (mset M (v0 + 1) a3.toNatClampNeg (0 : Int32)) (v0 + 2) a3.toNatClampNeg (0 : Int32)) (v0 + 3) a3.toNatClampNeg (0 : Int32)))))))
noncomputable def F3_fill_h2 (kx35 : Mem → Option (Mem)) (v0 : Nat) (v1 : Nat) (v2 : Int32) : Nat → Int32 → Mem → Option (Mem)
  | 0, _, _ => none
  | n + 1, a3, M => F3_fill_p2 (F3_fill_h2 kx35 v0 v1 v2 n) kx35 v0 v1 v2 a3 M
noncomputable def F3_fill (v0 : Nat) (v1 : Nat) (v2 : Int32) (mc : Mem) : Option (Mem) :=
  (F3_fill_h2 (F3_fill_b35 v0 v1 v2) v0 v1 v2 FU) (0 : Int32) mc
set_option maxHeartbeats 4000000 in
set_option maxRecDepth 100000 in
theorem kX3_fill (l : Launch) (g : GG) (v0 : Nat) (v1 : Nat) (v2 : Int32) (h0 : isO 3 v0) (h1 : isO 2 v1) (mc mm : Mem) (q : Mem) (hF : F3_fill v0 v1 v2 mc = some q) : KV l yX3_fill cX3_fill 4 1 24 g [.ref (g.1 v0), .ref (g.1 v1), .int v2] mc mm (q, mm) := by
  intro sz
  refine x_start (Qc := fun z => QV g z (q, mm)) (by decide +kernel) (Nat.le_of_ble_eq_true rfl) ?_ sz
  intro p e s m args below meth c ls Z hr hlk hP hl
  have hx := Z.1.1
  have hb := Z.1.2.1
  have hown := Z.1.2.2.2.1
  have hts := Z.1.2.2.2.2
  have hS : va_S (AA g s.heap.size) s.heap s.heap [] := va_S.rf
  have hl : lv_has ls 4 [(0, .ref (g.1 v0)), (1, .ref (g.1 v1)), (2, .int v2)] := hl
  unfold F3_fill at hF
  have hL37 : ∀ n : Nat, ∀ (a3 : Int32) (M : Mem), F3_fill_h37 v0 v1 v2 n a3 M = some q → ∀ (H : Heap) (locs : List Loc) (ls : Array Slot), lv_has ls 4 [(0, .ref (g.1 v0)), (1, .ref (g.1 v1)), (2, .int v2), (3, .int a3)] → va_P g.2.2.1 vwCl (wL g M mm) H → va_S (AA g s.heap.size) s.heap H locs → W p l e { frames := 1, cells := 0, slots := 0, locals := 24 } s m args below meth c H locs 0 0 (MQ below (QV g s.heap.size (q, mm)) args s 0 0 (AA g s.heap.size)) (F0 m 37 ls []) := by
    intro n
    induction n with
    | zero => intro a3 M hF H locs ls hl hP hS; exact absurd hF (fun z => nomatch (show (none : Option _) = some q from z))
    | succ n ih =>
      generalize hkh : F3_fill_h37 v0 v1 v2 n = kh at ih
      have hb92 : ∀ (a3 : Int32) (M : Mem), F3_fill_b92 kh v0 v1 v2 a3 M = some q → ∀ (H : Heap) (locs : List Loc) (ls : Array Slot), lv_has ls 4 [(0, .ref (g.1 v0)), (1, .ref (g.1 v1)), (2, .int v2), (3, .int a3)] → va_P g.2.2.1 vwCl (wL g M mm) H → va_S (AA g s.heap.size) s.heap H locs → W p l e { frames := 1, cells := 0, slots := 0, locals := 24 } s m args below meth c H locs 0 0 (MQ below (QV g s.heap.size (q, mm)) args s 0 0 (AA g s.heap.size)) (F0 m 92 ls []) := by
        intro a3 M hF H locs ls hl hP hS
        unfold F3_fill_b92 at hF
        refine lv_iinc (lv' := [(3, .int (a3 + (1 : Int32))), (0, .ref (g.1 v0)), (1, .ref (g.1 v1)), (2, .int v2)]) (v := (a3 + (1 : Int32))) hx hb dX3_fill_92 hl (k := 3) rfl (io_1 _) (Nat.le_of_ble_eq_true rfl) rfl (fun ls hl => ?_)
        refine lv_goto (tgt := 37) hx hb dX3_fill_95 rfl ?_
        exact ih _ _ hF _ _ _ (lv_sub hl [1, 2, 3, 0] rfl) hP hS
      intro a3 M hF H locs ls hl hP hS
      have hF : F3_fill_p37 (F3_fill_h37 v0 v1 v2 n) v0 v1 v2 a3 M = some q := hF
      rw [hkh] at hF
      unfold F3_fill_p37 at hF
      refine lv_iload_n hx hb dX3_fill_37 rfl (lv_at hl 3 rfl) ?_
      refine lv_aload_n hx hb dX3_fill_38 rfl (lv_at hl 1 rfl) ?_
      refine gf2_3N Z hP h1 nf_31 dX3_fill_39 ?_
      refine lv_icmp_ge (tgt := 98) hx hb dX3_fill_42 rfl (fun hc => ?_) (fun hc => ?_)
      · have hF := (if_pos hc).symm.trans hF
        exact ret_VWC Z hr hlk hP hS hF dX3_fill_98
      · have hF := (if_neg hc).symm.trans hF
        refine lv_iload_n hx hb dX3_fill_45 rfl (lv_at hl 2 rfl) ?_
        refine lv_iload_n hx hb dX3_fill_46 rfl (lv_at hl 3 rfl) ?_
        refine lv_ishr hx hb dX3_fill_47 ?_
        refine lv_iconst (v := (1 : Int32)) hx hb dX3_fill_48 ic_1 ?_
        refine lv_iand hx hb dX3_fill_49 ?_
        refine lv_iconst (v := (1 : Int32)) hx hb dX3_fill_50 ic_1 ?_
        refine lv_icmp_ne (tgt := 92) hx hb dX3_fill_51 rfl (fun hc => ?_) (fun hc => ?_)
        · have hF := (if_neg hc).symm.trans hF
          exact hb92 _ _ hF _ _ _ (lv_sub hl [0, 1, 2, 3] rfl) hP hS
        · have hF := (if_pos hc).symm.trans hF
          refine lv_aload_n hx hb dX3_fill_54 rfl (lv_at hl 1 rfl) ?_
          refine gf2_1N Z hP h1 nf_32 dX3_fill_55 ?_
          refine lv_iload_n hx hb dX3_fill_58 rfl (lv_at hl 3 rfl) ?_
          obtain ⟨hi10, hF⟩ := ck_ok hF
          refine ra_ld Z hP (ia_2_1 h1) hi10 dX3_fill_59 ?_
          refine lv_bipush (v := (40 : Int32)) hx hb dX3_fill_60 bp_40 ?_
          obtain ⟨q11, hq11, hF⟩ := bd_ok hF
          refine xX9_inN Z hP hS hq11 nm_8 hl.1 (Nat.le_of_ble_eq_true rfl) ⟨Nat.le_of_ble_eq_true rfl, Nat.le_of_ble_eq_true rfl⟩ dX3_fill_62 (fun H locs hP hS => ?_)
          refine lv_if_eq (tgt := 92) hx hb dX3_fill_65 rfl (fun hc => ?_) (fun hc => ?_)
          · have hF := (if_pos hc).symm.trans hF
            exact hb92 _ _ hF _ _ _ (lv_sub hl [0, 1, 2, 3] rfl) hP hS
          · have hF := (if_neg hc).symm.trans hF
            refine lv_aload_n hx hb dX3_fill_68 rfl (lv_at hl 0 rfl) ?_
            refine lv_aload_n hx hb dX3_fill_69 rfl (lv_at hl 1 rfl) ?_
            refine gf2_0N Z hP h1 nf_33 dX3_fill_70 ?_
            refine lv_iload_n hx hb dX3_fill_73 rfl (lv_at hl 3 rfl) ?_
            obtain ⟨hi12, hF⟩ := ck_ok hF
            refine ra_ld Z hP (ia_2_0 h1) hi12 dX3_fill_74 ?_
            refine lv_aload_n hx hb dX3_fill_75 rfl (lv_at hl 1 rfl) ?_
            refine gf2_1N Z hP h1 nf_32 dX3_fill_76 ?_
            refine lv_iload_n hx hb dX3_fill_79 rfl (lv_at hl 3 rfl) ?_
            obtain ⟨hi13, hF⟩ := ck_ok hF
            refine ra_ld Z hP (ia_2_1 h1) hi13 dX3_fill_80 ?_
            refine lv_iconst (v := (1 : Int32)) hx hb dX3_fill_81 ic_1 ?_
            refine lv_aload_n hx hb dX3_fill_82 rfl (lv_at hl 1 rfl) ?_
            refine gf2_2N Z hP h1 nf_34 dX3_fill_83 ?_
            refine lv_iload_n hx hb dX3_fill_86 rfl (lv_at hl 3 rfl) ?_
            obtain ⟨hi14, hF⟩ := ck_ok hF
            refine ra_ld Z hP (ia_2_2 h1) hi14 dX3_fill_87 ?_
            refine lv_ishl hx hb dX3_fill_88 ?_
            obtain ⟨q15, hq15, hF⟩ := bd_ok hF
            refine xX3_put Z hP hS h0 hq15 wd_20_18 hl.1 (Nat.le_of_ble_eq_true rfl) ⟨Nat.le_of_ble_eq_true rfl, Nat.le_of_ble_eq_true rfl⟩ dX3_fill_89 (fun H locs hP hS => ?_)
            exact hb92 _ _ hF _ _ _ (lv_sub hl [0, 1, 2, 3] rfl) hP hS
  have hb35 : ∀  (M : Mem), F3_fill_b35 v0 v1 v2 M = some q → ∀ (H : Heap) (locs : List Loc) (ls : Array Slot), lv_has ls 4 [(0, .ref (g.1 v0)), (1, .ref (g.1 v1)), (2, .int v2)] → va_P g.2.2.1 vwCl (wL g M mm) H → va_S (AA g s.heap.size) s.heap H locs → W p l e { frames := 1, cells := 0, slots := 0, locals := 24 } s m args below meth c H locs 0 0 (MQ below (QV g s.heap.size (q, mm)) args s 0 0 (AA g s.heap.size)) (F0 m 35 ls []) := by
    intro M hF H locs ls hl hP hS
    unfold F3_fill_b35 at hF
    refine lv_iconst (v := (0 : Int32)) hx hb dX3_fill_35 ic_0 ?_
    refine lv_istore_n (lv' := [(3, .int (0 : Int32)), (0, .ref (g.1 v0)), (1, .ref (g.1 v1)), (2, .int v2)]) hx hb dX3_fill_36 rfl hl (Nat.le_of_ble_eq_true rfl) rfl (fun ls hl => ?_)
    exact (hL37 FU) _ _ hF _ _ _ (lv_sub hl [1, 2, 3, 0] rfl) hP hS
  have hL2 : ∀ (kx35 : Mem → Option (Mem)), (∀  (M : Mem), kx35 M = some q → ∀ (H : Heap) (locs : List Loc) (ls : Array Slot), lv_has ls 4 [(0, .ref (g.1 v0)), (1, .ref (g.1 v1)), (2, .int v2)] → va_P g.2.2.1 vwCl (wL g M mm) H → va_S (AA g s.heap.size) s.heap H locs → W p l e { frames := 1, cells := 0, slots := 0, locals := 24 } s m args below meth c H locs 0 0 (MQ below (QV g s.heap.size (q, mm)) args s 0 0 (AA g s.heap.size)) (F0 m 35 ls [])) → ∀ n : Nat, ∀ (a3 : Int32) (M : Mem), F3_fill_h2 kx35 v0 v1 v2 n a3 M = some q → ∀ (H : Heap) (locs : List Loc) (ls : Array Slot), lv_has ls 4 [(0, .ref (g.1 v0)), (1, .ref (g.1 v1)), (2, .int v2), (3, .int a3)] → va_P g.2.2.1 vwCl (wL g M mm) H → va_S (AA g s.heap.size) s.heap H locs → W p l e { frames := 1, cells := 0, slots := 0, locals := 24 } s m args below meth c H locs 0 0 (MQ below (QV g s.heap.size (q, mm)) args s 0 0 (AA g s.heap.size)) (F0 m 2 ls []) := by
    intro kx35 hx35 n
    induction n with
    | zero => intro a3 M hF H locs ls hl hP hS; exact absurd hF (fun z => nomatch (show (none : Option _) = some q from z))
    | succ n ih =>
      generalize hkh : F3_fill_h2 kx35 v0 v1 v2 n = kh at ih
      intro a3 M hF H locs ls hl hP hS
      have hF : F3_fill_p2 (F3_fill_h2 kx35 v0 v1 v2 n) kx35 v0 v1 v2 a3 M = some q := hF
      rw [hkh] at hF
      unfold F3_fill_p2 at hF
      refine lv_iload_n hx hb dX3_fill_2 rfl (lv_at hl 3 rfl) ?_
      refine lv_bipush (v := (40 : Int32)) hx hb dX3_fill_3 bp_40 ?_
      refine lv_icmp_ge (tgt := 35) hx hb dX3_fill_5 rfl (fun hc => ?_) (fun hc => ?_)
      · have hF := (if_pos hc).symm.trans hF
        exact hx35 _ hF _ _ _ (lv_sub hl [0, 1, 2] rfl) hP hS
      · have hF := (if_neg hc).symm.trans hF
        refine lv_aload_n hx hb dX3_fill_8 rfl (lv_at hl 0 rfl) ?_
        refine gf3_0 Z hP h0 wd_5_7 dX3_fill_9 ?_
        refine lv_iload_n hx hb dX3_fill_12 rfl (lv_at hl 3 rfl) ?_
        refine lv_iconst (v := (0 : Int32)) hx hb dX3_fill_13 ic_0 ?_
        obtain ⟨hi16, hF⟩ := ck_ok hF
        refine ra_st Z hP hS (ia_3_0 h0) hi16 dX3_fill_14 (fun H locs hP hS => ?_)
        refine lv_aload_n hx hb dX3_fill_15 rfl (lv_at hl 0 rfl) ?_
        refine gf3_1 Z hP h0 wd_5_8 dX3_fill_16 ?_
        refine lv_iload_n hx hb dX3_fill_19 rfl (lv_at hl 3 rfl) ?_
        refine lv_iconst (v := (0 : Int32)) hx hb dX3_fill_20 ic_0 ?_
        obtain ⟨hi17, hF⟩ := ck_ok hF
        refine ra_st Z hP hS (ia_3_1 h0) hi17 dX3_fill_21 (fun H locs hP hS => ?_)
        refine lv_aload_n hx hb dX3_fill_22 rfl (lv_at hl 0 rfl) ?_
        refine gf3_2 Z hP h0 wd_5_10 dX3_fill_23 ?_
        refine lv_iload_n hx hb dX3_fill_26 rfl (lv_at hl 3 rfl) ?_
        refine lv_iconst (v := (0 : Int32)) hx hb dX3_fill_27 ic_0 ?_
        obtain ⟨hi18, hF⟩ := ck_ok hF
        refine rz_st Z hP hS (ia_3_2 h0) (Or.inl rfl) hi18 dX3_fill_28 (fun H locs hP hS => ?_)
        refine lv_iinc (lv' := [(3, .int (a3 + (1 : Int32))), (0, .ref (g.1 v0)), (1, .ref (g.1 v1)), (2, .int v2)]) (v := (a3 + (1 : Int32))) hx hb dX3_fill_29 hl (k := 3) rfl (io_1 _) (Nat.le_of_ble_eq_true rfl) rfl (fun ls hl => ?_)
        refine lv_goto (tgt := 2) hx hb dX3_fill_32 rfl ?_
        exact ih _ _ hF _ _ _ (lv_sub hl [1, 2, 3, 0] rfl) hP hS
  refine lv_iconst (v := (0 : Int32)) hx hb dX3_fill_0 ic_0 ?_
  refine lv_istore_n (lv' := [(3, .int (0 : Int32)), (0, .ref (g.1 v0)), (1, .ref (g.1 v1)), (2, .int v2)]) hx hb dX3_fill_1 rfl hl (Nat.le_of_ble_eq_true rfl) rfl (fun ls hl => ?_)
  exact (hL2 _ hb35 FU) _ _ hF _ _ _ (lv_sub hl [1, 2, 3, 0] rfl) hP hS
theorem xX3_fill {p : Program} {l : Launch} {e : Env} {R : Room} {s : State} {m : MethodId} {args : Array Value} {below : List Frame} {meth : Method} {c : Code} {H : Heap} {locs : List Loc} {Q : State → Prop} {cc : ByteArray} {nL : Nat} {own : String} {g : GG} {pc index : Nat} {ls : Array Slot} {rest : List Value} {mc mm : Mem} (Z : ZZ p s m args c cc nL own g) (hP : va_P g.2.2.1 vwCl (wL g mc mm) H) (hS : va_S (AA g s.heap.size) s.heap H locs) {v0 : Nat} {v1 : Nat} {v2 : Int32} (h0 : isO 3 v0) (h1 : isO 2 v1) {q : Mem} (hq : F3_fill v0 v1 v2 mc = some q) (hlk : Cond.methodLink own index yX3_fill ∈ wsL_law) (hsz : ls.size = nL) (hro : (rest.map fun v => v.category).sum ≤ 8) (hR : 1 + 1 ≤ R.frames ∧ 8 + (4 + 11) + 24 ≤ R.locals) (hdg : decode cc pc = .ok (.invokevirtual index, 3)) (kk : ∀ (H : Heap) (locs : List Loc), va_P g.2.2.1 vwCl (wL g q mm) H → va_S (AA g s.heap.size) s.heap H locs → W p l e R s m args below meth c H locs 0 0 Q (F0 m (pc + 3) ls (rest))) : W p l e R s m args below meth c H locs 0 0 Q (F0 m pc ls (.int v2 :: .ref (g.1 v1) :: .ref (g.1 v0) :: rest)) :=
  x_VV Z hP hS (kX3_fill l g v0 v1 v2 h0 h1 mc mm q hq) (isO_w h0) (ci := 3) (by decide) rfl rfl mf_X3_fill mv_X3_fill hlk rfl rfl hsz hro hR hdg kk
theorem dX4_begin_0 : decode cX4_begin 0 = .ok (.iload_n 3, 1) := by decide +kernel
theorem dX4_begin_1 : decode cX4_begin 1 = .ok (.ifCond .lt 27, 3) := by decide +kernel
theorem dX4_begin_4 : decode cX4_begin 4 = .ok (.iload_n 3, 1) := by decide +kernel
theorem dX4_begin_5 : decode cX4_begin 5 = .ok (.aload_n 1, 1) := by decide +kernel
theorem dX4_begin_6 : decode cX4_begin 6 = .ok (.getfield 77, 3) := by decide +kernel
theorem dX4_begin_9 : decode cX4_begin 9 = .ok (.if_icmp .ge 19, 3) := by decide +kernel
theorem dX4_begin_12 : decode cX4_begin 12 = .ok (.iload_n 2, 1) := by decide +kernel
theorem dX4_begin_13 : decode cX4_begin 13 = .ok (.iload_n 3, 1) := by decide +kernel
theorem dX4_begin_14 : decode cX4_begin 14 = .ok (.ishr, 1) := by decide +kernel
theorem dX4_begin_15 : decode cX4_begin 15 = .ok (.iconst 1, 1) := by decide +kernel
theorem dX4_begin_16 : decode cX4_begin 16 = .ok (.iand, 1) := by decide +kernel
theorem dX4_begin_17 : decode cX4_begin 17 = .ok (.ifCond .ne 11, 3) := by decide +kernel
theorem dX4_begin_20 : decode cX4_begin 20 = .ok (.aload_n 0, 1) := by decide +kernel
theorem dX4_begin_21 : decode cX4_begin 21 = .ok (.iload_n 3, 1) := by decide +kernel
theorem dX4_begin_22 : decode cX4_begin 22 = .ok (.putfield 24, 3) := by decide +kernel
theorem dX4_begin_25 : decode cX4_begin 25 = .ok (.goto 8, 3) := by decide +kernel
theorem dX4_begin_28 : decode cX4_begin 28 = .ok (.aload_n 0, 1) := by decide +kernel
theorem dX4_begin_29 : decode cX4_begin 29 = .ok (.iconst 0, 1) := by decide +kernel
theorem dX4_begin_30 : decode cX4_begin 30 = .ok (.putfield 39, 3) := by decide +kernel
theorem dX4_begin_33 : decode cX4_begin 33 = .ok (.return_, 1) := by decide +kernel
noncomputable def F4_begin_b28 (v0 : Nat) (v1 : Nat) (v2 : Int32) (v3 : Int32) (M : Mem) : Option (Mem) :=
  some (mset M v0 9 (0 : Int32))
noncomputable def F4_begin (v0 : Nat) (v1 : Nat) (v2 : Int32) (v3 : Int32) (mc : Mem) : Option (Mem) :=
  (if v3 < (0 : Int32) then (F4_begin_b28 v0 v1 v2 v3) mc else (if (mc v1 4) ≤ v3 then (F4_begin_b28 v0 v1 v2 v3) mc else (if ((v2 >>> (v3 &&& (31 : Int32))) &&& (1 : Int32)) = (0 : Int32) then some (mset mc v0 5 v3) else (F4_begin_b28 v0 v1 v2 v3) mc)))
set_option maxHeartbeats 4000000 in
set_option maxRecDepth 100000 in
theorem kX4_begin (l : Launch) (g : GG) (v0 : Nat) (v1 : Nat) (v2 : Int32) (v3 : Int32) (h0 : isO 4 v0) (h1 : isO 8 v1) (mc mm : Mem) (q : Mem) (hF : F4_begin v0 v1 v2 v3 mc = some q) : KV l yX4_begin cX4_begin 4 0 0 g [.ref (g.1 v0), .ref (g.1 v1), .int v2, .int v3] mc mm (q, mm) := by
  intro sz
  refine x_start (Qc := fun z => QV g z (q, mm)) (by decide +kernel) (Nat.le_of_ble_eq_true rfl) ?_ sz
  intro p e s m args below meth c ls Z hr hlk hP hl
  have hx := Z.1.1
  have hb := Z.1.2.1
  have hown := Z.1.2.2.2.1
  have hts := Z.1.2.2.2.2
  have hS : va_S (AA g s.heap.size) s.heap s.heap [] := va_S.rf
  have hl : lv_has ls 4 [(0, .ref (g.1 v0)), (1, .ref (g.1 v1)), (2, .int v2), (3, .int v3)] := hl
  unfold F4_begin at hF
  have hb28 : ∀  (M : Mem), F4_begin_b28 v0 v1 v2 v3 M = some q → ∀ (H : Heap) (locs : List Loc) (ls : Array Slot), lv_has ls 4 [(0, .ref (g.1 v0))] → va_P g.2.2.1 vwCl (wL g M mm) H → va_S (AA g s.heap.size) s.heap H locs → W p l e { frames := 0, cells := 0, slots := 0, locals := 0 } s m args below meth c H locs 0 0 (MQ below (QV g s.heap.size (q, mm)) args s 0 0 (AA g s.heap.size)) (F0 m 28 ls []) := by
    intro M hF H locs ls hl hP hS
    unfold F4_begin_b28 at hF
    refine lv_aload_n hx hb dX4_begin_28 rfl (lv_at hl 0 rfl) ?_
    refine lv_iconst (v := (0 : Int32)) hx hb dX4_begin_29 ic_0 ?_
    refine pf4_9 Z hP hS h0 wd_21_5 dX4_begin_30 (fun H locs hP hS => ?_)
    exact ret_VWC Z hr hlk hP hS hF dX4_begin_33
  refine lv_iload_n hx hb dX4_begin_0 rfl (lv_at hl 3 rfl) ?_
  refine lv_if_lt (tgt := 28) hx hb dX4_begin_1 rfl (fun hc => ?_) (fun hc => ?_)
  · have hF := (if_pos hc).symm.trans hF
    exact hb28 _ hF _ _ _ (lv_sub hl [0] rfl) hP hS
  · have hF := (if_neg hc).symm.trans hF
    refine lv_iload_n hx hb dX4_begin_4 rfl (lv_at hl 3 rfl) ?_
    refine lv_aload_n hx hb dX4_begin_5 rfl (lv_at hl 1 rfl) ?_
    refine gf8_4N Z hP h1 nf_39 dX4_begin_6 ?_
    refine lv_icmp_ge (tgt := 28) hx hb dX4_begin_9 rfl (fun hc => ?_) (fun hc => ?_)
    · have hF := (if_pos hc).symm.trans hF
      exact hb28 _ hF _ _ _ (lv_sub hl [0] rfl) hP hS
    · have hF := (if_neg hc).symm.trans hF
      refine lv_iload_n hx hb dX4_begin_12 rfl (lv_at hl 2 rfl) ?_
      refine lv_iload_n hx hb dX4_begin_13 rfl (lv_at hl 3 rfl) ?_
      refine lv_ishr hx hb dX4_begin_14 ?_
      refine lv_iconst (v := (1 : Int32)) hx hb dX4_begin_15 ic_1 ?_
      refine lv_iand hx hb dX4_begin_16 ?_
      refine lv_if_ne (tgt := 28) hx hb dX4_begin_17 rfl (fun hc => ?_) (fun hc => ?_)
      · have hF := (if_neg hc).symm.trans hF
        exact hb28 _ hF _ _ _ (lv_sub hl [0] rfl) hP hS
      · have hF := (if_pos hc).symm.trans hF
        refine lv_aload_n hx hb dX4_begin_20 rfl (lv_at hl 0 rfl) ?_
        refine lv_iload_n hx hb dX4_begin_21 rfl (lv_at hl 3 rfl) ?_
        refine pf4_5 Z hP hS h0 wd_21_2 dX4_begin_22 (fun H locs hP hS => ?_)
        refine lv_goto (tgt := 33) hx hb dX4_begin_25 rfl ?_
        exact ret_VWC Z hr hlk hP hS hF dX4_begin_33
theorem xX4_begin {p : Program} {l : Launch} {e : Env} {R : Room} {s : State} {m : MethodId} {args : Array Value} {below : List Frame} {meth : Method} {c : Code} {H : Heap} {locs : List Loc} {Q : State → Prop} {cc : ByteArray} {nL : Nat} {own : String} {g : GG} {pc index : Nat} {ls : Array Slot} {rest : List Value} {mc mm : Mem} (Z : ZZ p s m args c cc nL own g) (hP : va_P g.2.2.1 vwCl (wL g mc mm) H) (hS : va_S (AA g s.heap.size) s.heap H locs) {v0 : Nat} {v1 : Nat} {v2 : Int32} {v3 : Int32} (h0 : isO 4 v0) (h1 : isO 8 v1) {q : Mem} (hq : F4_begin v0 v1 v2 v3 mc = some q) (hlk : Cond.methodLink own index yX4_begin ∈ wsL_law) (hsz : ls.size = nL) (hro : (rest.map fun v => v.category).sum ≤ 8) (hR : 0 + 1 ≤ R.frames ∧ 8 + (4 + 11) + 0 ≤ R.locals) (hdg : decode cc pc = .ok (.invokevirtual index, 3)) (kk : ∀ (H : Heap) (locs : List Loc), va_P g.2.2.1 vwCl (wL g q mm) H → va_S (AA g s.heap.size) s.heap H locs → W p l e R s m args below meth c H locs 0 0 Q (F0 m (pc + 3) ls (rest))) : W p l e R s m args below meth c H locs 0 0 Q (F0 m pc ls (.int v3 :: .int v2 :: .ref (g.1 v1) :: .ref (g.1 v0) :: rest)) :=
  x_VV Z hP hS (kX4_begin l g v0 v1 v2 v3 h0 h1 mc mm q hq) (isO_w h0) (ci := 4) (by decide) rfl rfl mf_X4_begin mv_X4_begin hlk rfl rfl hsz hro hR hdg kk
